/** Promises 7 to 14: bringing, evenings, the table, eating, hunger, years, the lot. */
public final class EveningTest {
    private static final Checks C = new Checks();
    private static final int BAD = EachBrings.BAD, STATE = EachBrings.STATE, NONE = EachBrings.NONE;

    public static void main(String[] args) {
        bringing();
        free();
        letters();
        board();
        table();
        eatingForth();
        eatingBack();
        eatingByMostLeft();
        hunger();
        years();
        yearsHoldWeights();
        aYearClears();
        lot();
        C.end();
    }

    private static void bringing() {
        EachBrings x = Checks.village("house 1 0 0 9 5;house 2 2 2 2 1;pride 3;");
        C.due("brings(-1, 0)", x.brings(-1, 0), BAD);
        C.due("brings(2, 0)", x.brings(2, 0), BAD);
        C.due("brings(0, -1)", x.brings(0, -1), BAD);
        C.due("brings(0, 4)", x.brings(0, 4), BAD);
        C.due("brings what it can't", x.brings(0, 1), STATE);
        C.due("house(0, 6)", x.house(0, 6), NONE);
        C.due("brings(0, 3)", x.brings(0, 3), 8);
        C.due("brings again", x.brings(0, 3), STATE);
        C.due("brings another", x.brings(0, 0), STATE);
        C.due("house(0, 6)", x.house(0, 6), 3);
        C.due("count(1)", x.count(1), 1);
        C.due("eat(0)", x.eat(0), 6);
        C.due("brings behind eating", x.brings(1, 0), STATE);
        C.due("brings behind eating, no sort", x.brings(1, 4), BAD);
        C.due("brings behind eating, no house", x.brings(6, 0), BAD);
    }

    private static void free() {
        // The lot 1 goes on to 1103527590, whose upper 16 bits are 16838: 16838 % 10 = 8.
        EachBrings x = Checks.village("house 1 2 5 2 1;");
        C.due("evening()", x.evening(), 1);
        C.due("8 of 1 2 5 2", x.house(0, 6), 3);
        C.due("lot(1)", x.lot(1), 1103527590);
        x = Checks.village("house 1 2 6 1 1;");
        x.evening();
        C.due("8 of 1 2 6 1", x.house(0, 6), 2);
        x = Checks.village("house 0 0 0 2 1;");
        x.evening();
        C.due("the only one", x.house(0, 6), 3);
        // A lot below 0: its upper bits are not signed.
        x = Checks.village("house 1 1 1 1 1;");
        x.lot(2);
        x.evening();
        int after = 2 * 1103515245 + 12345;
        C.holds("the lot is below 0", after < 0);
        C.due("below 0", x.house(0, 6), (after >>> 16) % 4);
        // Who can bring none, or has brought, does not draw.
        x = Checks.village("house 0 0 0 0 1;house 1 2 5 2 1;house 1 1 1 1 1;house 1 2 5 2 1;");
        x.brings(1, 1);
        C.due("evening()", x.evening(), 2);
        C.due("house(0, 6)", x.house(0, 6), NONE);
        C.due("house(1, 6)", x.house(1, 6), 1);
        C.due("16838 % 4", x.house(2, 6), 2);
        int second = 1103527590 * 1103515245 + 12345;
        int draw = (second >>> 16) % 10;
        C.due("the second draw", x.house(3, 6), draw < 1 ? 0 : draw < 3 ? 1 : draw < 8 ? 2 : 3);
        C.due("lot(1)", x.lot(1), second);
        C.due("evening() again", x.evening(), 0);
        C.due("lot(1)", x.lot(1), 1);
        x.eat(0);
        C.due("evening() behind eating", x.evening(), STATE);
    }

    private static void letters() {
        EachBrings x = Checks.village("law 1;house 1 9 9 9 1;house 9 0 9 9 1;house 9 9 0 0 1;"
                + "house 0 0 1 0 1;house 0 9 9 9 1;house 0 1 0 0 1;");
        C.due("evening()", x.evening(), 6);
        int[] sorts = {0, 2, 0, 2, 1, 1};
        for (int h = 0; h < 6; h++) {
            C.due("letters: house(" + h + ", 6)", x.house(h, 6), sorts[h]);
        }
        C.due("the lot stays", x.lot(1), 1);
        x = Checks.village("law 1;house 0 0 0 0 1;house 1 1 1 1 1;house 1 1 1 1 1;");
        x.brings(2, 3);
        C.due("evening()", x.evening(), 1);
        C.due("house(0, 6)", x.house(0, 6), NONE);
        C.due("house(1, 6)", x.house(1, 6), 1);
        C.due("house(2, 6)", x.house(2, 6), 3);
    }

    private static void board() {
        EachBrings x = Checks.village("law 2;house 3 5 5 1 1;house 3 5 5 1 1;house 3 5 5 1 1;"
                + "house 3 5 5 0 1;house 9 0 0 1 1;house 0 0 0 0 1;");
        C.due("evening()", x.evening(), 5);
        int[] sorts = {1, 2, 0, 1, 3, NONE};
        for (int h = 0; h < 6; h++) {
            C.due("board: house(" + h + ", 6)", x.house(h, 6), sorts[h]);
        }
        C.due("the lot stays", x.lot(1), 1);
        // A later house that has brought is on the board already.
        x = Checks.village("law 2;house 9 1 0 0 1;house 9 9 9 9 1;");
        x.brings(1, 0);
        x.evening();
        C.due("the later one's sort is there", x.house(0, 6), 1);
    }

    private static void table() {
        EachBrings x = Checks.village("house 1 1 0 0 2;house 1 0 0 0 9;house 0 1 0 0 4;pride 1;");
        x.brings(0, 0);
        x.brings(1, 0);
        x.brings(2, 1);
        int[][] due = {{13, 13, 2}, {5, 5, 1}, {0, 0, 0}, {0, 0, 0}};
        for (int s = 0; s < 4; s++) {
            for (int what = 0; what < 3; what++) {
                C.due("table(" + s + ", " + what + ")", x.table(s, what), due[s][what]);
            }
        }
        C.due("table(-1, 0)", x.table(-1, 0), BAD);
        C.due("table(4, 0)", x.table(4, 0), BAD);
        C.due("table(0, -1)", x.table(0, -1), BAD);
        C.due("table(0, 3)", x.table(0, 3), BAD);
        C.due("eat(0)", x.eat(0), 15);
        C.due("brought stays", x.table(0, 0), 13);
        C.due("left goes", x.table(0, 1) + x.table(1, 1), 3);
        C.due("count(2)", x.count(2), 3);
        C.due("who brought stays", x.table(0, 2), 2);
    }

    private static void eatingForth() {
        EachBrings x = Checks.village("house 1 0 0 0 3;house 0 0 0 0 2;house 0 0 0 0 2;");
        x.brings(0, 0);
        C.due("eat(2)", x.eat(2), BAD);
        C.due("eat(-1)", x.eat(-1), BAD);
        C.due("eat(0)", x.eat(0), 3);
        C.due("ate(0, 0)", x.ate(0, 0), 3);
        C.due("ate(1, 0)", x.ate(1, 0), 0);
        C.due("eat(0) again", x.eat(0), STATE);
        C.due("eat(1) again", x.eat(1), STATE);
        C.due("eat(2) again", x.eat(2), BAD);
    }

    private static void eatingBack() {
        EachBrings x = Checks.village("house 1 0 0 0 3;house 0 0 0 0 2;house 0 0 0 0 2;");
        x.brings(0, 0);
        C.due("eat(1)", x.eat(1), 3);
        C.due("ate(2, 0)", x.ate(2, 0), 2);
        C.due("ate(1, 0)", x.ate(1, 0), 1);
        C.due("ate(0, 0)", x.ate(0, 0), 0);
        C.due("ate(3, 0)", x.ate(3, 0), BAD);
        C.due("ate(-1, 0)", x.ate(-1, 0), BAD);
        C.due("ate(0, 4)", x.ate(0, 4), BAD);
        C.due("ate(0, -1)", x.ate(0, -1), BAD);
    }

    private static void eatingByMostLeft() {
        // 3 of sort 0, 5 of sort 1, 5 of sort 2: 1 2 1 2 then 3 3 3: 0 1 2.
        EachBrings x = Checks.village("house 0 0 0 0 7;house 1 0 0 0 3;house 0 1 0 0 5;house 0 0 1 0 5;"
                + "bar 1 1;bar 1 2;bar 1 3;bar 2 0;");
        x.evening();
        C.due("eat(0)", x.eat(0), 13);
        int[][] due = {{1, 3, 3, 0}, {2, 0, 0, 0}, {0, 2, 2, 0}, {0, 0, 0, 0}};
        for (int h = 0; h < 4; h++) {
            for (int s = 0; s < 4; s++) {
                C.due("most left: ate(" + h + ", " + s + ")", x.ate(h, s), due[h][s]);
            }
        }
        C.due("hungry(1)", x.hungry(1), 1);
        C.due("hungry(2)", x.hungry(2), 1);
        C.due("hungry(3)", x.hungry(3), 5);
    }

    private static void hunger() {
        EachBrings x = Checks.village("house 1 0 0 0 4;bar 0 0;");
        C.due("hungry(0) ahead of eating", x.hungry(0), STATE);
        C.due("hungry(1) ahead of eating", x.hungry(1), BAD);
        C.due("hungry(-1) ahead of eating", x.hungry(-1), BAD);
        x.brings(0, 0);
        C.due("eat(0)", x.eat(0), 0);
        C.due("hungry(0)", x.hungry(0), 4);
        C.due("hungry(1)", x.hungry(1), BAD);
        C.due("count(2)", x.count(2), 4);
    }

    private static void years() {
        EachBrings x = Checks.village("house 4 4 4 4 1;house 6 0 1 9 1;house 5 5 5 5 1;memory 2;");
        x.brings(0, 0);
        x.brings(1, 0);
        x.brings(2, 1);
        C.due("year()", x.year(), 1);
        int[][] due = {{2, 4, 6, 6}, {4, 0, 3, 9}, {3, 5, 7, 7}};
        for (int h = 0; h < 3; h++) {
            for (int s = 0; s < 4; s++) {
                C.due("year: house(" + h + ", " + s + ")", x.house(h, s), due[h][s]);
            }
        }
        C.due("year()", x.year(), 2);
        C.due("house(0, 0)", x.house(0, 0), 4);
        C.due("count(4)", x.count(4), 2);
    }

    private static void yearsHoldWeights() {
        EachBrings x = Checks.village("house 1 1 0 0 1;house 5 9 0 0 1;house 9 9 0 0 1;memory 9;");
        x.brings(0, 0);
        x.brings(1, 0);
        x.brings(2, 0);
        x.year();
        int[] due = {1, 9, 0, 0};
        for (int h = 0; h < 3; h++) {
            for (int s = 0; s < 4; s++) {
                C.due("held: house(" + h + ", " + s + ")", x.house(h, s), due[s]);
            }
        }
        x = Checks.village("house 3 3 3 3 1;house 3 3 3 3 1;memory 0;");
        x.brings(0, 0);
        x.brings(1, 0);
        x.year();
        C.due("memory 0, two", x.house(0, 0), 3);
        C.due("memory 0, none", x.house(0, 1), 3);
    }

    private static void aYearClears() {
        EachBrings x = Checks.village("house 3 3 3 3 1;house 3 3 3 3 1;");
        x.brings(0, 0);
        x.evening();
        x.eat(0);
        x.ill(0, 1);
        x.ill(1, 0);
        int lot = x.lot(5);
        C.holds("the lot went on", lot != 1);
        C.due("year()", x.year(), 1);
        C.due("the lot stays", x.lot(5), 5);
        C.due("count(1)", x.count(1), 0);
        C.due("count(2)", x.count(2), 0);
        C.due("count(3)", x.count(3), 0);
        C.due("house(0, 6)", x.house(0, 6), NONE);
        C.due("hungry(0)", x.hungry(0), STATE);
        C.due("ill(0, 1)", x.ill(0, 1), STATE);
        for (int s = 0; s < 4; s++) {
            C.due("ate(0, " + s + ")", x.ate(0, s), 0);
            C.due("table(" + s + ", 0)", x.table(s, 0), 0);
        }
        C.due("evening()", x.evening(), 2);
        C.due("eat(1)", x.eat(1), 2);
        C.due("ill(0, 1) is news", x.ill(0, 1), 1);
        // What was left is gone, of each sort.
        x = Checks.village("house 1 0 0 0 1;house 0 1 0 0 1;house 0 0 1 0 1;house 0 0 0 1 1;pride 9;");
        x.evening();
        x.eat(0);
        x.year();
        for (int s = 0; s < 4; s++) {
            C.due("table(" + s + ", 1)", x.table(s, 1), 0);
        }
    }

    private static void lot() {
        EachBrings x = new EachBrings();
        C.due("lot(MIN)", x.lot(Integer.MIN_VALUE), 1);
        C.due("lot(MAX)", x.lot(Integer.MAX_VALUE), Integer.MIN_VALUE);
        C.due("lot(-9)", x.lot(-9), Integer.MAX_VALUE);
        C.due("lot(0)", x.lot(0), -9);
    }
}
