/** Promises 15 to 19, sentence by sentence: each edge that the document names of odds, calls and swings. */
public final class OddsEdgesTest {
    private static final Checks C = new Checks();
    private static final int BAD = EachBrings.BAD, NO = EachBrings.NO, NONE = EachBrings.NONE;
    private static final String ANY = "house 1 1 1 1 1;";
    private static final String CANT = "house 0 0 0 0 1;";
    private static final String BIG = "house 9 9 9 8 9;";
    private static final String EACH = "house 1 0 0 0 1;house 0 1 0 0 1;house 0 0 1 0 1;house 0 0 0 1 1;";
    private static final int[] FAR = {-1, -2, 7, 8, 9, 31, 32, 33, 64, 256, 1 << 16, -1000000,
        Integer.MIN_VALUE, Integer.MIN_VALUE + 1, Integer.MAX_VALUE};

    public static void main(String[] args) {
        oddsOfNoneOrMore();
        oddsOfSixAndMore();
        oddsInLeastTerms();
        oddsOfGreatNumbers();
        oddsOfThoseWhoCan();
        oddsAsIfNoneHadBrought();
        oddsByFreeLaw();
        oddsAreNo();
        allOfTooFew();
        allForSure();
        allInLeastTerms();
        allOfThoseWhoCan();
        allAsTheyAre();
        allIsNo();
        callOfNothing();
        callAtLeast();
        callOfTheFewest();
        callOfTheFirstRow();
        callOfOneTheyCan();
        callIsNone();
        callAsTheyAre();
        callIsBad();
        sharedOfNothing();
        sharedNoMoreThanItEats();
        sharedWhatHeMay();
        sharedByAnySharing();
        sharedAsItWas();
        swingsAtOnce();
        swingsLater();
        swingsFirst();
        swingsByTheLeast();
        swingsByMemory();
        swingsOfTwoHundred();
        swingsAsTheyAre();
        swingsIsBad();
        C.end();
    }

    private static void odds(EachBrings x, int s, int k, long upper, long lower) {
        C.due("odds(" + s + ", " + k + ", 0)", x.odds(s, k, 0), upper);
        C.due("odds(" + s + ", " + k + ", 1)", x.odds(s, k, 1), lower);
    }

    private static void all(String what, EachBrings x, long upper, long lower) {
        C.due(what + ": all(0)", x.all(0), upper);
        C.due(what + ": all(1)", x.all(1), lower);
    }

    private static void oddsOfNoneOrMore() {
        C.sentence("ODDS that k HOUSES or more bring a SORT: k = 0");
        for (String text : new String[] {"", CANT, ANY, BIG.repeat(6), EACH}) {
            EachBrings x = Checks.village(text);
            for (int s = 0; s < 4; s++) {
                odds(x, s, 0, 1, 1);
            }
        }
        C.sentence("ODDS of no house");
        EachBrings x = new EachBrings();
        for (int k = 1; k <= 6; k++) {
            odds(x, 0, k, 0, 1);
            odds(x, 3, k, 0, 1);
        }
    }

    private static void oddsOfSixAndMore() {
        C.sentence("ODDS that k HOUSES or more bring a SORT: k up to 6");
        // Of n even coins, k heads or more.
        long[][] heads = {{1}, {2, 1}, {4, 3, 1}, {8, 7, 4, 1}, {16, 15, 11, 5, 1}, {32, 31, 26, 16, 6, 1},
            {64, 63, 57, 42, 22, 7, 1}};
        for (int n = 0; n <= 6; n++) {
            EachBrings x = Checks.village("house 0 3 0 3 1;".repeat(n));
            for (int k = 0; k <= 6; k++) {
                long upper = k <= n ? heads[n][k] : 0;
                long lower = heads[n][0];
                while (upper % 2 == 0 && lower % 2 == 0) {
                    upper /= 2;
                    lower /= 2;
                }
                odds(x, 1, k, upper, lower);
                odds(x, 3, k, upper, lower);
                odds(x, 0, k, k == 0 ? 1 : 0, 1);
            }
        }
        C.sentence("ODDS: for sure, and never");
        for (int n = 0; n <= 6; n++) {
            for (int weight : new int[] {1, 7, 9}) {
                EachBrings x = Checks.village(("house 0 0 " + weight + " 0 1;").repeat(n));
                for (int k = 0; k <= 6; k++) {
                    odds(x, 2, k, k <= n ? 1 : 0, 1);
                    odds(x, 3, k, k == 0 ? 1 : 0, 1);
                }
            }
        }
    }

    private static void oddsInLeastTerms() {
        C.sentence("Promise 15: upper (what = 0), lower number (1), in least terms");
        EachBrings x = Checks.village("house 2 4 6 8 1;");
        odds(x, 0, 1, 1, 10);
        odds(x, 1, 1, 1, 5);
        odds(x, 2, 1, 3, 10);
        odds(x, 3, 1, 2, 5);
        odds(x, 3, 2, 0, 1);
        x = Checks.village("house 9 0 0 1 1;house 1 2 3 4 1;house 6 6 6 6 1;");
        odds(x, 0, 1, 373, 400);
        odds(x, 0, 2, 59, 200);
        odds(x, 0, 3, 9, 400);
    }

    private static void oddsOfGreatNumbers() {
        C.sentence("ODDS: fractions of the greatest numbers there are");
        EachBrings x = Checks.village(BIG.repeat(6));
        long[][] last = {{1, 1}, {1450845136L, 1838265625L}, {30483904, 73530625}, {50382848, 367653125},
            {10072064, 367653125}, {1114112, 367653125}, {262144, 1838265625L}};
        long[][] first = {{1, 1}, {1529349849L, 1838265625L}, {177551109, 367653125}, {66505941, 367653125},
            {610173, 14706125}, {1948617, 367653125}, {531441, 1838265625L}};
        for (int k = 0; k <= 6; k++) {
            odds(x, 3, k, last[k][0], last[k][1]);
            odds(x, 0, k, first[k][0], first[k][1]);
        }
        x = Checks.village("house 9 9 9 9 9;".repeat(6));
        odds(x, 2, 6, 1, 4096);
        x = Checks.village("house 9 8 7 5 1;house 7 9 8 6 1;house 9 7 5 8 1;house 8 9 9 5 1;house 9 9 8 9 1;"
                + "house 1 9 9 9 1;");
        odds(x, 2, 1, 26474551, 31936975);
        odds(x, 0, 6, 243, 4562425);
    }

    private static void oddsOfThoseWhoCan() {
        C.sentence("all HOUSES that can bring some, each for itself");
        EachBrings x = Checks.village(CANT + "house 1 1 0 0 1;" + CANT.repeat(3) + "house 1 0 2 0 1;");
        odds(x, 0, 1, 2, 3);
        odds(x, 0, 2, 1, 6);
        odds(x, 0, 3, 0, 1);
        odds(x, 2, 1, 2, 3);
        odds(x, 1, 1, 1, 2);
    }

    private static void oddsAsIfNoneHadBrought() {
        C.sentence("WEIGHTS as they are .. as if none had brought");
        EachBrings x = Checks.village("house 1 1 0 0 1;house 1 0 2 0 1;");
        x.brings(0, 1);
        odds(x, 0, 1, 2, 3);
        all("brought", x, 0, 1);
        x.evening();
        x.eat(0);
        odds(x, 0, 1, 2, 3);
        x = Checks.village("house 1 5 0 0 1;".repeat(2) + "memory 3;");
        x.brings(0, 1);
        x.brings(1, 1);
        x.year();
        odds(x, 0, 2, 4, 9);
    }

    private static void oddsByFreeLaw() {
        C.sentence("ODDS, by FREE LAW (whatever LAW was told)");
        for (int law = 0; law <= 2; law++) {
            EachBrings x = Checks.village("house 1 3 0 0 1;law " + law + ";");
            odds(x, 0, 1, 1, 4);
            x = Checks.village(ANY.repeat(4) + "law " + law + ";");
            all("law " + law, x, 3, 32);
            C.due("call(4, 32, -1)", x.call(4, 32, -1), 2);
        }
    }

    private static void oddsAreNo() {
        C.sentence("Promise 15: by k (0 .. 6) .. NO: BAD");
        EachBrings x = Checks.village(ANY.repeat(6));
        C.due("odds(4, 0, 0)", x.odds(4, 0, 0), NO);
        C.due("odds(0, 7, 0)", x.odds(0, 7, 0), NO);
        C.due("odds(0, 0, 2)", x.odds(0, 0, 2), NO);
        C.due("odds(3, 6, 1)", x.odds(3, 6, 1), 4096);
        for (int far : FAR) {
            C.due("odds(" + far + ", 0, 0)", x.odds(far, 0, 0), NO);
            C.due("odds(0, " + far + ", 0)", x.odds(0, far, 0), NO);
            C.due("odds(0, 0, " + far + ")", x.odds(0, 0, far), NO);
        }
        C.due("of no house: odds(4, 0, 0)", new EachBrings().odds(4, 0, 0), NO);
    }

    private static void allOfTooFew() {
        C.sentence("that all four SORTS are there: never");
        all("no house", new EachBrings(), 0, 1);
        for (int n = 1; n <= 3; n++) {
            all(n + " houses", Checks.village(ANY.repeat(n)), 0, 1);
        }
        for (int s = 0; s < 4; s++) {
            String house = "house " + "9 ".repeat(s) + "0 " + "9 ".repeat(3 - s) + "1;";
            all("none can bring " + s, Checks.village(house.repeat(6)), 0, 1);
        }
        all("none can bring any", Checks.village(CANT.repeat(6)), 0, 1);
        all("two sorts by one house only", Checks.village("house 1 1 0 0 1;".repeat(5) + "house 0 0 1 1 1;"), 0, 1);
    }

    private static void allForSure() {
        C.sentence("that all four SORTS are there: for sure");
        all("one each", Checks.village(EACH), 1, 1);
        all("one each, and two more", Checks.village(EACH + ANY.repeat(2)), 1, 1);
        all("one each of weight 9", Checks.village(EACH.replace('1', '9')), 1, 1);
    }

    private static void allInLeastTerms() {
        C.sentence("Promise 16: upper (what = 0), lower number (1), in least terms");
        all("four", Checks.village(ANY.repeat(4)), 3, 32);
        all("four of 9", Checks.village("house 9 9 9 9 1;".repeat(4)), 3, 32);
        all("five", Checks.village(ANY.repeat(5)), 15, 64);
        all("six", Checks.village(ANY.repeat(6)), 195, 512);
        all("the greatest", Checks.village(BIG.repeat(6)), 139338144, 367653125);
        all("uneven", Checks.village("house 9 8 7 5 1;house 7 9 8 6 1;house 9 7 5 8 1;house 8 9 9 5 1;"
                + "house 9 9 8 9 1;house 1 9 9 9 1;"), 491838, 1277479);
        all("one in four", Checks.village("house 1 0 0 0 1;house 0 1 0 0 1;house 0 0 1 0 1;house 0 0 6 2 1;"), 1, 4);
    }

    private static void allOfThoseWhoCan() {
        C.sentence("(all HOUSES that can bring some, each for itself): all four");
        all("with one that can't", Checks.village(CANT + ANY.repeat(2) + CANT + ANY.repeat(2)), 3, 32);
    }

    private static void allAsTheyAre() {
        C.sentence("WEIGHTS as they are: all four");
        EachBrings x = Checks.village("house 1 0 0 0 1;house 0 1 0 0 1;house 0 0 1 0 1;house 0 0 1 1 1;memory 2;");
        x.brings(0, 0);
        x.brings(1, 1);
        x.brings(2, 2);
        x.eat(0);
        all("as it is now", x, 1, 2);
        x.year();
        all("3 of 4 a year later", x, 3, 4);
    }

    private static void allIsNo() {
        C.sentence("Promise 16: NO: BAD");
        EachBrings x = Checks.village(EACH);
        C.due("all(2)", x.all(2), NO);
        for (int far : FAR) {
            C.due("all(" + far + ")", x.all(far), NO);
            C.due("of no house: all(" + far + ")", new EachBrings().all(far), NO);
        }
    }

    private static void callOfNothing() {
        C.sentence("TOLD by 0 in b: none is told");
        EachBrings none = new EachBrings();
        EachBrings two = Checks.village(ANY.repeat(2));
        for (int b = 1; b <= 99; b++) {
            C.due("no house: call(0, " + b + ", -1)", none.call(0, b, -1), 0);
            C.due("two: call(0, " + b + ", -1)", two.call(0, b, -1), 0);
            C.due("two: call(0, " + b + ", 1)", two.call(0, b, 1), 9);
        }
    }

    private static void callAtLeast() {
        C.sentence("with a in b at least");
        EachBrings x = Checks.village(ANY.repeat(4));
        // 3/32 with none or one told, 1/8 with two, 1/4 with three, 1 with four.
        int[][] due = {{3, 32, 0}, {9, 96, 0}, {9, 97, 0}, {9, 95, 2}, {1, 8, 2}, {12, 96, 2}, {12, 95, 3}, {13, 99, 3},
            {1, 4, 3}, {24, 96, 3}, {25, 99, 4}, {98, 99, 4}, {99, 99, 4}, {1, 1, 4}, {1, 99, 0}, {10, 99, 2}};
        for (int[] d : due) {
            C.due("call(" + d[0] + ", " + d[1] + ", -1)", x.call(d[0], d[1], -1), d[2]);
        }
        x = Checks.village(BIG.repeat(6));
        // 139338144 / 367653125 is between 36/95 and 11/29 (0.37899 .. and 0.37931).
        C.due("call(36, 95, -1)", x.call(36, 95, -1), 0);
        C.due("call(11, 29, -1)", x.call(11, 29, -1), 1);
        C.due("of great numbers: call(99, 99, -1)", x.call(99, 99, -1), 4);
    }

    private static void callOfTheFewest() {
        C.sentence("TOLD: the fewest HOUSES; Promise 17: how many (h = -1), what a HOUSE is told (h; 9: nothing)");
        String text = "house 1 1 0 0 1;house 0 1 1 0 1;house 0 0 1 1 1;house 1 0 0 1 1;house 1 2 3 4 1;house 4 3 2 1 1;";
        row(text, 12, 25, 0, 9, 9, 9, 9, 9, 9);
        row(text, 1, 2, 1, 9, 9, 9, 9, 9, 0);
        row(text, 2, 3, 2, 9, 9, 2, 9, 3, 9);
        row(text, 3, 4, 3, 9, 9, 9, 0, 1, 3);
        row(text, 9, 10, 4, 9, 9, 2, 0, 1, 3);
        row(text, 1, 1, 4, 9, 9, 2, 0, 1, 3);
        text = "house 5 0 0 1 1;house 0 5 0 1 1;house 0 0 5 1 1;house 0 0 0 0 1;house 9 9 9 1 1;";
        row(text, 1, 3, 1, 9, 9, 9, 9, 3);
        row(text, 2, 3, 2, 9, 9, 2, 9, 3);
        row(text, 3, 4, 3, 9, 1, 2, 9, 3);
        row(text, 9, 10, 4, 0, 1, 2, 9, 3);
    }

    private static void row(String text, int a, int b, int many, int... told) {
        EachBrings x = Checks.village(text);
        C.due("call(" + a + ", " + b + ", -1)", x.call(a, b, -1), many);
        for (int h = 0; h < told.length; h++) {
            C.due("call(" + a + ", " + b + ", " + h + ")", x.call(a, b, h), told[h]);
        }
    }

    private static void callOfTheFirstRow() {
        C.sentence("of several rows (of each HOUSE none, or a SORT; none ahead of SORT 0) the first");
        row(ANY.repeat(6), 1, 1, 4, 9, 9, 0, 1, 2, 3);
        row(ANY.repeat(6), 55, 99, 3, 9, 9, 9, 0, 1, 2);
        row(ANY.repeat(6), 39, 99, 2, 9, 9, 9, 9, 0, 1);
        row(ANY.repeat(4), 1, 1, 4, 0, 1, 2, 3);
        row("house 0 0 1 1 1;" + ANY.repeat(3), 1, 1, 4, 2, 0, 1, 3);
        row(ANY.repeat(3) + "house 1 0 0 0 1;", 1, 1, 3, 1, 2, 3, 9);
        row(ANY + "house 1 0 0 0 1;house 0 1 0 0 1;house 0 0 1 0 1;", 1, 1, 1, 3, 9, 9, 9);
        row(EACH + ANY, 1, 1, 0, 9, 9, 9, 9, 9);
    }

    private static void callOfOneTheyCan() {
        C.sentence("told a SORT each (one they can)");
        row("house 0 0 0 9 1;house 0 0 9 0 1;house 0 9 0 0 1;house 1 0 0 9 1;", 1, 1, 1, 9, 9, 9, 0);
        row("house 9 1 0 0 1;house 9 0 1 0 1;house 9 0 0 1 1;house 1 9 9 9 1;", 1, 1, 4, 0, 2, 3, 1);
        row(CANT + ANY + CANT + ANY.repeat(3), 1, 1, 4, 9, 0, 9, 1, 2, 3);
    }

    private static void callIsNone() {
        C.sentence("TOLD: NONE");
        for (String text : new String[] {ANY, ANY.repeat(3), "house 1 1 1 0 1;".repeat(6), CANT.repeat(6),
            "house 1 1 0 0 1;".repeat(5) + "house 0 0 1 1 1;"}) {
            EachBrings x = Checks.village(text);
            for (int[] ab : new int[][] {{1, 99}, {1, 1}, {99, 99}}) {
                C.due(text + " how many", x.call(ab[0], ab[1], -1), NONE);
                C.due(text + " house 0", x.call(ab[0], ab[1], 0), NONE);
                C.due(text + " house " + (x.count(0) - 1), x.call(ab[0], ab[1], x.count(0) - 1), NONE);
            }
        }
        C.due("no house", new EachBrings().call(1, 99, -1), NONE);
    }

    private static void callAsTheyAre() {
        C.sentence("TOLD: WEIGHTS as they are, as if none had brought, and nothing is changed");
        EachBrings x = Checks.village("house 1 0 0 0 1;house 0 1 0 0 1;house 0 0 1 0 1;house 0 0 1 1 1;memory 2;");
        C.due("1 in 2 is there", x.call(3, 4, -1), 1);
        x.brings(0, 0);
        x.brings(1, 1);
        x.brings(2, 2);
        C.due("as if none had brought", x.call(3, 4, 3), 3);
        C.due("nothing is brought by it", x.count(1), 3);
        x.year();
        C.due("3 in 4 is there", x.call(3, 4, -1), 0);
        C.due("nothing is brought by it", x.count(1), 0);
    }

    private static void callIsBad() {
        C.sentence("Promise 17: TOLD by a in b (0 .. 99, 1 .. 99, a no more than b) .. BAD");
        EachBrings x = Checks.village(ANY.repeat(4));
        int[][] bad = {{-1, 1, -1}, {-1, 99, -1}, {100, 99, -1}, {100, 100, -1}, {99, 100, -1}, {0, 0, -1}, {0, -1, -1},
            {-1, -1, -1}, {0, 100, -1}, {2, 1, -1}, {99, 98, -1}, {50, 49, -1}, {1, 1, -2}, {1, 1, 4}, {1, 1, 6}};
        for (int[] b : bad) {
            C.due("call(" + b[0] + ", " + b[1] + ", " + b[2] + ")", x.call(b[0], b[1], b[2]), BAD);
        }
        for (int far : FAR) {
            boolean isFew = far >= 1 && far <= 99;
            C.due("call(0, 1, " + far + ")", x.call(0, 1, far), far == -1 ? 0 : BAD);
            C.due("call(" + far + ", 1, -1)", x.call(far, 1, -1), BAD);
            C.due("call(0, " + far + ", -1)", x.call(0, far, -1), isFew ? 0 : BAD);
        }
        for (int b = 1; b <= 99; b++) {
            C.due("call(" + b + ", " + b + ", -1)", x.call(b, b, -1), 4);
            C.due("call(" + (b + 1) + ", " + b + ", -1)", x.call(b + 1, b, -1), BAD);
        }
        C.sentence("BAD ahead of NONE");
        C.due("never, and no such house", Checks.village(ANY).call(1, 1, 1), BAD);
        C.due("no house at all", new EachBrings().call(1, 1, 0), BAD);
    }

    private static void sharedOfNothing() {
        C.sentence("SHARED: of what was brought");
        C.due("no house", new EachBrings().shared(), 0);
        C.due("nothing is brought", Checks.village(ANY.repeat(6)).shared(), 0);
        EachBrings x = Checks.village("house 1 0 0 0 5;bar 0 0;bar 0 1;bar 0 2;bar 0 3;");
        x.evening();
        C.due("nobody may eat", x.shared(), 0);
    }

    private static void sharedNoMoreThanItEats() {
        C.sentence("SHARED: none more than it EATS");
        for (int pride = 0; pride <= 9; pride += 9) {
            EachBrings x = Checks.village("house 1 0 0 0 9;".repeat(6) + "pride " + pride + ";");
            x.evening();
            C.due("all eat what they eat", x.shared(), 54);
        }
        EachBrings x = Checks.village("house 1 0 0 0 2;house 0 0 0 0 1;pride 9;");
        x.evening();
        C.due("3 of 11", x.shared(), 3);
        x = Checks.village("house 1 0 0 0 1;house 0 0 0 0 9;house 0 0 0 0 9;");
        x.evening();
        C.due("there is no more", x.shared(), 1);
    }

    private static void sharedWhatHeMay() {
        C.sentence("SHARED: whoever eats what he may");
        EachBrings x = Checks.village("house 1 0 0 0 4;house 0 1 0 0 4;bar 0 0;bar 1 1;");
        x.evening();
        C.due("each eats the other's", x.shared(), 8);
        x = Checks.village("house 1 0 0 0 4;house 0 1 0 0 4;bar 0 1;bar 1 0;bar 0 0;");
        x.evening();
        C.due("one may eat neither", x.shared(), 4);
        for (int s = 0; s < 4; s++) {
            String bring = "house " + "0 ".repeat(s) + "1 " + "0 ".repeat(3 - s) + "5;";
            x = Checks.village(bring + "house 0 0 0 0 3;bar 0 " + s + ";");
            x.evening();
            C.due("barred from " + s, x.shared(), 3);
        }
    }

    private static void sharedByAnySharing() {
        C.sentence("SHARED: the most spoons that can be eaten, by any sharing");
        // House 0 would take of sort 0, the only one that house 1 may eat.
        EachBrings x = Checks.village("house 0 1 0 0 3;house 1 0 0 0 3;bar 1 1;");
        x.evening();
        C.due("each its own", x.shared(), 6);
        C.due("in a row fewer", x.eat(0), 4);
        // A chain: 0 leaves sort 0 for 1, 1 leaves sort 1 for 2, 2 leaves sort 2 for 3.
        x = Checks.village("house 0 0 0 1 4;house 1 0 0 0 4;house 0 1 0 0 4;house 0 0 1 0 4;bar 1 2;bar 1 3;"
                + "bar 2 0;bar 2 3;bar 3 0;bar 3 1;bar 3 3;");
        x.evening();
        C.due("a chain", x.shared(), 16);
        C.holds("in a row fewer", x.eat(0) < 16);
    }

    private static void sharedAsItWas() {
        C.sentence("SHARED: (as it was ahead of eating)");
        EachBrings x = Checks.village("house 0 1 0 0 3;house 1 0 0 0 3;bar 1 1;");
        x.brings(0, 1);
        C.due("one has brought", x.shared(), 3);
        x.brings(1, 0);
        C.due("both have", x.shared(), 6);
        x.eat(0);
        C.due("eaten", x.shared(), 6);
        C.due("nothing is changed", x.count(2), 2);
        x.year();
        C.due("a year later", x.shared(), 0);
    }

    private static void swing(String what, EachBrings x, int first, int later) {
        C.due(what + ": swings(0)", x.swings(0), first);
        C.due(what + ": swings(1)", x.swings(1), later);
    }

    private static void swingsAtOnce() {
        C.sentence("SWINGS: the first year (0: now) ahead of which WEIGHTS are as ahead of a later one");
        swing("no house", new EachBrings(), 0, 1);
        swing("none that can", Checks.village(CANT.repeat(6)), 0, 1);
        swing("one each", Checks.village(EACH), 0, 1);
        swing("one house alone", Checks.village("house 0 0 3 0 1;"), 0, 1);
        swing("two at 1", Checks.village("house 1 0 0 0 1;house 1 0 0 0 1;"), 0, 1);
    }

    private static void swingsLater() {
        C.sentence("SWINGS: how many years later first");
        swing("to and fro", Checks.village("house 9 1 0 0 1;house 9 1 0 0 1;memory 9;"), 0, 2);
        swing("to and fro", Checks.village("house 9 1 0 0 1;house 9 1 0 0 1;memory 8;"), 0, 2);
        swing("of 28 years", Checks.village("house 0 5 7 3 1;house 7 8 0 0 1;house 0 3 3 3 1;house 6 5 9 1 1;"
                + "house 9 0 0 4 1;house 9 4 9 4 1;memory 3;"), 10, 28);
        swing("of 4 years", Checks.village("house 8 9 6 0 1;house 0 1 8 0 1;house 1 0 8 5 1;house 1 0 0 5 1;"
                + "house 9 9 8 0 1;house 1 0 8 5 1;"), 154, 4);
    }

    private static void swingsFirst() {
        C.sentence("SWINGS: year by year, from WEIGHTS as they are");
        for (int weight = 1; weight <= 9; weight++) {
            swing("from " + weight + " down to 1",
                    Checks.village("house " + weight + " 0 0 0 1;house 1 0 0 0 1;"), weight - 1, 1);
            swing("from " + weight + " up to 9", Checks.village("house 9 " + weight + " 0 0 1;"), 9 - weight, 1);
        }
    }

    private static void swingsByTheLeast() {
        C.sentence("SWINGS: each HOUSE that can brings the SORT of the greatest WEIGHT (of several the least)");
        // Both bring 0 of 5 5: 4 6; then both 1: 5 5, and so on.
        swing("5 5", Checks.village("house 5 5 0 0 1;house 5 5 0 0 1;"), 0, 2);
        // A house alone brings 0 of 9 9 for ever.
        swing("9 9", Checks.village("house 9 9 9 9 1;" + CANT), 0, 1);
        // One brings sort 1 at 4, one sort 0 at 4: the sorts 2 and 3 go up to 9, then they are brought.
        swing("4 4", Checks.village("house 0 4 0 0 1;house 4 4 0 0 1;"), 0, 1);
    }

    private static void swingsByMemory() {
        C.sentence("SWINGS: MEMORY 0, and as told");
        swing("memory 0", Checks.village("house 3 5 7 9 1;".repeat(6) + "memory 0;"), 0, 1);
        for (int memory = 1; memory <= 9; memory++) {
            swing("memory " + memory, Checks.village("house 9 0 0 0 1;house 9 0 0 0 1;memory " + memory + ";"),
                    (8 + memory - 1) / memory, 1);
        }
    }

    /** Year by year on the object itself what SWINGS looks at: so the years ahead grow fewer by one. */
    private static void swingsOfTwoHundred() {
        C.sentence("SWINGS: NONE: both together are more than 200");
        EachBrings x = Checks.village("house 9 6 2 9 1;house 8 8 5 8 1;house 8 6 7 0 1;house 9 9 9 2 1;"
                + "house 0 9 0 9 1;house 6 0 7 9 1;");
        for (int years = 208; years >= 198; years--) {
            boolean isNone = years > 200;
            swing(years + " together", x, isNone ? NONE : years - 2, isNone ? NONE : 2);
            for (int h = 0; h < 6; h++) {
                bringFavourite(x, h);
            }
            x.year();
        }
        x = Checks.village("house 0 9 0 6 1;house 8 7 8 0 1;house 8 8 6 5 1;house 9 6 4 6 1;house 7 0 8 6 1;"
                + "house 9 9 9 2 1;");
        swing("202 together", x, NONE, NONE);
        C.due("nothing is changed", x.count(4), 0);
        C.due("nothing is changed", x.house(0, 1), 9);
        C.due("BAD all the same", x.swings(2), BAD);
    }

    private static void bringFavourite(EachBrings x, int h) {
        int best = 0;
        for (int s = 1; s < 4; s++) {
            best = x.house(h, s) > x.house(h, best) ? s : best;
        }
        x.brings(h, best);
    }

    private static void swingsAsTheyAre() {
        C.sentence("(Nothing is changed.) SWINGS, whatever was brought, eaten, or told by LAW");
        for (int law = 0; law <= 2; law++) {
            EachBrings x = Checks.village("house 7 0 0 0 1;house 5 0 0 0 1;law " + law + ";");
            swing("now", x, 6, 1);
            x.brings(0, 0);
            swing("one has brought", x, 6, 1);
            x.evening();
            x.eat(0);
            swing("all have eaten", x, 6, 1);
            C.due("house(0, 0)", x.house(0, 0), 7);
            C.due("count(4)", x.count(4), 0);
            C.due("count(1)", x.count(1), 2);
            x.year();
            swing("a year later", x, 5, 1);
        }
    }

    private static void swingsIsBad() {
        C.sentence("Promise 19: BAD");
        EachBrings x = Checks.village(ANY);
        C.due("swings(2)", x.swings(2), BAD);
        for (int far : FAR) {
            C.due("swings(" + far + ")", x.swings(far), BAD);
        }
    }
}
