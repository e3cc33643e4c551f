/** Promises 15 to 19: odds, calls, sharing, swings. */
public final class OddsTest {
    private static final Checks C = new Checks();
    private static final int BAD = EachBrings.BAD, NO = EachBrings.NO, NONE = EachBrings.NONE;
    private static final String EVEN = "house 9 9 9 9 9;".repeat(6);

    public static void main(String[] args) {
        odds();
        oddsChangeNothing();
        all();
        call();
        callOfTheFirstRow();
        callRefused();
        shared();
        swings();
        longSwings();
        swingsRefused();
        C.end();
    }

    private static void odds() {
        EachBrings x = Checks.village("house 1 1 0 0 1;house 1 0 2 0 1;house 0 0 0 0 1;");
        long[][] due = {{1, 1}, {2, 3}, {1, 6}, {0, 1}, {0, 1}, {0, 1}, {0, 1}};
        for (int k = 0; k <= 6; k++) {
            C.due("odds(0, " + k + ", 0)", x.odds(0, k, 0), due[k][0]);
            C.due("odds(0, " + k + ", 1)", x.odds(0, k, 1), due[k][1]);
        }
        C.due("odds(2, 1, 0)", x.odds(2, 1, 0), 2);
        C.due("odds(2, 1, 1)", x.odds(2, 1, 1), 3);
        C.due("odds(3, 1, 0)", x.odds(3, 1, 0), 0);
        C.due("odds(3, 1, 1)", x.odds(3, 1, 1), 1);
        int[][] bad = {{-1, 0, 0}, {4, 0, 0}, {0, -1, 0}, {0, 7, 0}, {0, 0, -1}, {0, 0, 2}};
        for (int[] b : bad) {
            C.due("odds bad", x.odds(b[0], b[1], b[2]), NO);
        }
        x = Checks.village("house 1 0 0 0 1;house 0 0 1 0 1;house 1 0 0 0 1;");
        C.due("two for sure", x.odds(0, 2, 0), 1);
        C.due("two for sure", x.odds(0, 2, 1), 1);
        C.due("three never", x.odds(0, 3, 0), 0);
        // The greatest lower number; behind it 36 to the 6th ways, which an int would not hold.
        x = Checks.village("house 9 9 9 8 9;".repeat(6));
        C.due("35 to the 6th", x.odds(3, 6, 1), 1838265625L);
        x = Checks.village(EVEN);
        C.due("one of six", x.odds(1, 1, 0), 4096 - 729);
        C.due("one of six", x.odds(1, 1, 1), 4096);
    }

    private static void oddsChangeNothing() {
        EachBrings x = Checks.village("house 1 1 0 0 1;house 1 0 2 0 1;law 2;");
        x.brings(0, 1);
        C.due("as if none had brought", x.odds(0, 1, 0), 2);
        x.eat(0);
        C.due("as if none had brought", x.odds(0, 1, 1), 3);
        C.due("count(1)", x.count(1), 1);
        C.due("lot(1)", x.lot(1), 1);
        C.due("year()", x.year(), 1);
        // Weights as they are: 2 1 0 0 and 2 0 3 0.
        C.due("weights as they are", x.odds(0, 2, 0), 4);
        C.due("weights as they are", x.odds(0, 2, 1), 15);
    }

    private static void all() {
        EachBrings x = Checks.village("house 1 0 0 0 1;house 0 1 0 0 1;house 0 0 1 0 1;house 0 0 0 1 1;");
        C.due("all(0) for sure", x.all(0), 1);
        C.due("all(1) for sure", x.all(1), 1);
        x = Checks.village("house 1 0 0 0 1;house 0 1 0 0 1;house 0 0 1 0 1;house 0 0 6 2 1;house 0 0 0 0 1;");
        C.due("all(0)", x.all(0), 1);
        C.due("all(1)", x.all(1), 4);
        x = Checks.village("house 1 1 1 1 1;".repeat(3));
        C.due("all(0) of three", x.all(0), 0);
        C.due("all(1) of three", x.all(1), 1);
        x = Checks.village("house 1 1 1 1 1;".repeat(4));
        C.due("all(0) of four", x.all(0), 3);
        C.due("all(1) of four", x.all(1), 32);
        C.due("all(2)", x.all(2), NO);
        C.due("all(-1)", x.all(-1), NO);
    }

    private static void call() {
        EachBrings x = Checks.village("house 1 0 0 0 1;house 0 1 0 0 1;house 0 0 1 0 1;house 0 0 6 2 1;");
        C.due("1 in 4 is there", x.call(1, 4, -1), 0);
        C.due("26 in 99 is not", x.call(26, 99, -1), 1);
        int[] row = {9, 9, 9, 3};
        for (int h = 0; h < 4; h++) {
            C.due("call(26, 99, " + h + ")", x.call(26, 99, h), row[h]);
            C.due("call(1, 4, " + h + ")", x.call(1, 4, h), 9);
        }
        x = Checks.village("house 1 1 1 1 1;".repeat(3));
        C.due("never", x.call(1, 99, -1), NONE);
        C.due("never", x.call(1, 99, 0), NONE);
        C.due("0 in b", x.call(0, 99, -1), 0);
        C.due("0 in b", x.call(0, 99, 2), 9);
        // Weights as they are, and as if none had brought.
        x = Checks.village("house 1 1 1 1 1;".repeat(4) + "law 1;");
        C.due("call(1, 1, -1)", x.call(1, 1, -1), 3 + 1);
        x.evening();
        C.due("call(1, 1, -1)", x.call(1, 1, -1), 4);
        C.due("nothing is changed", x.count(1), 4);
    }

    private static void callOfTheFirstRow() {
        EachBrings x = Checks.village(EVEN);
        int[] row = {9, 9, 0, 1, 2, 3};
        for (int h = 0; h < 6; h++) {
            C.due("call(1, 1, " + h + ")", x.call(1, 1, h), row[h]);
        }
        // Only house 0 brings sort 3, only house 1 sort 2: the first row tells 1 and 0 those.
        x = Checks.village("house 1 1 1 1 1;house 1 1 1 0 1;house 1 1 0 0 1;house 1 1 0 0 1;");
        int[] forced = {3, 2, 0, 1};
        C.due("call(1, 1, -1)", x.call(1, 1, -1), 4);
        for (int h = 0; h < 4; h++) {
            C.due("forced: call(1, 1, " + h + ")", x.call(1, 1, h), forced[h]);
        }
        // A house that can bring none is told nothing.
        x = Checks.village("house 0 0 0 0 1;" + "house 1 1 1 1 1;".repeat(4));
        C.due("call(1, 1, 0)", x.call(1, 1, 0), 9);
        C.due("call(1, 1, 1)", x.call(1, 1, 1), 0);
    }

    private static void callRefused() {
        EachBrings x = Checks.village("house 1 1 1 1 1;");
        int[][] bad = {{-1, 5, -1}, {100, 99, -1}, {0, 0, -1}, {0, 100, -1}, {3, 2, -1}, {100, 100, -1},
            {0, 1, -2}, {0, 1, 1}, {0, 1, 6}, {0, -1, -1}, {-2, -1, -1}};
        for (int[] b : bad) {
            C.due("call(" + b[0] + ", " + b[1] + ", " + b[2] + ")", x.call(b[0], b[1], b[2]), BAD);
        }
        C.due("call(99, 99, -1)", x.call(99, 99, -1), NONE);
        C.due("call(0, 1, 0)", x.call(0, 1, 0), 9);
    }

    private static void shared() {
        EachBrings x = Checks.village("house 1 0 0 0 5;house 0 1 0 0 3;pride 2;bar 0 0;bar 1 1;");
        C.due("nothing is there", x.shared(), 0);
        x.brings(0, 0);
        C.due("7 for 3", x.shared(), 3);
        x.brings(1, 1);
        C.due("5 for 5, 7 for 3", x.shared(), 8);
        // By eating in order house 0 takes what house 1 needs.
        x = Checks.village("house 1 0 0 0 3;house 0 1 0 0 2;house 0 0 0 0 4;bar 2 1;");
        x.evening();
        C.due("shared()", x.shared(), 5);
        x = Checks.village("house 5 0 0 0 2;house 0 1 0 0 2;bar 1 1;");
        x.evening();
        C.due("all can be eaten", x.shared(), 4);
        C.due("eat(0)", x.eat(0), 3);
        C.due("as it was ahead of eating", x.shared(), 4);
        x.year();
        C.due("a year later", x.shared(), 0);
    }

    private static void swings() {
        // Two houses of one sort: 3, 2, 1, 1 ..
        EachBrings x = Checks.village("house 3 0 0 0 1;house 2 0 0 0 1;");
        C.due("swings(0)", x.swings(0), 2);
        C.due("swings(1)", x.swings(1), 1);
        // Both bring 0, then both 1, and so on: 9 1, 1 9 with memory 9.
        x = Checks.village("house 9 1 0 0 1;house 9 1 0 0 1;memory 9;");
        C.due("swings(0)", x.swings(0), 0);
        C.due("swings(1)", x.swings(1), 2);
        x.year();
        C.due("house(0, 0)", x.house(0, 0), 9);
        C.due("from weights as they are", x.swings(0), 1);
        C.due("from weights as they are", x.swings(1), 2);
        x.evening();
        C.due("what was brought is nothing to it", x.swings(1), 2);
        C.due("nothing is changed", x.count(4), 1);
        C.due("nothing is changed", x.house(0, 1), 9);
    }

    private static void longSwings() {
        EachBrings x = Checks.village("house 5 8 0 0 1;house 0 7 8 2 1;house 6 7 0 9 1;house 0 0 5 7 1;"
                + "house 8 3 7 9 1;memory 1;");
        C.due("a long way: swings(0)", x.swings(0), 88);
        C.due("a long way: swings(1)", x.swings(1), 2);
    }

    private static void swingsRefused() {
        EachBrings x = new EachBrings();
        C.due("swings(-1)", x.swings(-1), BAD);
        C.due("swings(2)", x.swings(2), BAD);
        C.due("swings(0)", x.swings(0), 0);
        C.due("swings(1)", x.swings(1), 1);
    }
}
