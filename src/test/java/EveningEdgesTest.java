/** Promises 7 to 14, sentence by sentence: each edge that the document names of an evening and a year. */
public final class EveningEdgesTest {
    private static final Checks C = new Checks();
    private static final int BAD = EachBrings.BAD, STATE = EachBrings.STATE, NONE = EachBrings.NONE;
    private static final String ANY = "house 1 1 1 1 1;";
    private static final int[] FAR = {-1, -2, 6, 7, 8, 9, 31, 32, 33, 64, 256, 1 << 16,
        Integer.MIN_VALUE, Integer.MIN_VALUE + 1, Integer.MAX_VALUE};

    public static void main(String[] args) {
        bringsSpoons();
        bringsIsBad();
        bringsWhatItCant();
        bringsOnce();
        bringsNothingBehindEating();
        bringsIsBadAheadOfState();
        eveningOfThoseWhoHaveNot();
        eveningBehindEating();
        theLotGoesOn();
        drawsOfEachNumber();
        drawsOfUpperBits();
        onlyDrawersDraw();
        letters();
        boardByFewest();
        boardByWeight();
        boardByLeast();
        boardByThen();
        tableOfEachSort();
        tableIsBad();
        eatOnce();
        eatIsBad();
        eatEitherWay();
        eatAsLongAsLess();
        eatOfTheMost();
        eatOfSeveralTheLeast();
        eatNothingBarred();
        eatNothingEmpty();
        ate();
        hungry();
        hungryIsRefused();
        yearOfNobody();
        yearOfOne();
        yearOfTwoOrMore();
        yearOfCantBring();
        yearOfMemoryNone();
        yearClears();
        yearIsCounted();
        lot();
        C.end();
    }

    private static void bringsSpoons() {
        C.sentence("A HOUSE BRINGS a SORT: EATS and PRIDE spoons of it; Promise 7: how many spoons");
        for (int eats = 1; eats <= 9; eats++) {
            for (int pride = 0; pride <= 9; pride++) {
                EachBrings x = Checks.village("house 0 0 1 0 " + eats + ";pride " + pride + ";");
                C.due("brings(0, 2)", x.brings(0, 2), eats + pride);
                C.due("table(2, 0)", x.table(2, 0), eats + pride);
                C.due("table(2, 1)", x.table(2, 1), eats + pride);
                C.due("house(0, 6)", x.house(0, 6), 2);
            }
        }
        C.sentence("A HOUSE BRINGS a SORT that it can (BARRED or not)");
        EachBrings x = Checks.village("house 1 0 0 0 3;bar 0 0;");
        C.due("brings(0, 0)", x.brings(0, 0), 3);
    }

    private static void bringsIsBad() {
        C.sentence("Promise 7: BAD");
        for (int houses = 0; houses <= 6; houses++) {
            EachBrings x = Checks.village(ANY.repeat(houses));
            C.due("brings(-1, 0)", x.brings(-1, 0), BAD);
            C.due("of " + houses + ": brings(" + houses + ", 0)", x.brings(houses, 0), BAD);
            C.due("brings(0, -1)", x.brings(0, -1), BAD);
            C.due("brings(0, 4)", x.brings(0, 4), BAD);
            for (int far : FAR) {
                C.due("brings(" + far + ", 0)", x.brings(far, 0), BAD);
                C.due("brings(0, " + far + ")", x.brings(0, far), BAD);
            }
            C.due("count(1)", x.count(1), 0);
            C.holds("the last house brings the last sort", houses == 0 || x.brings(houses - 1, 3) == 1);
        }
    }

    private static void bringsWhatItCant() {
        C.sentence("a WEIGHT (0: it can't bring it); Promise 7: STATE: it can't");
        for (int s = 0; s < 4; s++) {
            for (int other = 0; other < 4; other++) {
                EachBrings x = Checks.village("house " + "0 ".repeat(s) + "1 " + "0 ".repeat(3 - s) + "2;");
                C.due("can " + s + ": brings(0, " + other + ")", x.brings(0, other), s == other ? 2 : STATE);
                C.due("count(1)", x.count(1), s == other ? 1 : 0);
            }
        }
        EachBrings x = Checks.village("house 0 0 0 0 9;");
        for (int s = 0; s < 4; s++) {
            C.due("can none: brings(0, " + s + ")", x.brings(0, s), STATE);
        }
        x = Checks.village("house 9 0 0 0 2;");
        C.due("of weight 9", x.brings(0, 0), 2);
    }

    private static void bringsOnce() {
        C.sentence("once an evening; Promise 7: STATE: it has brought some");
        EachBrings x = Checks.village("house 1 1 1 1 2;house 1 1 1 1 3;");
        C.due("brings(0, 0)", x.brings(0, 0), 2);
        for (int s = 0; s < 4; s++) {
            C.due("brings(0, " + s + ") again", x.brings(0, s), STATE);
        }
        C.due("what it brought stays", x.house(0, 6), 0);
        C.due("spoons stay", x.count(2), 2);
        C.due("another house may bring the same", x.brings(1, 0), 3);
        x.year();
        C.due("on the next evening it may", x.brings(0, 3), 2);
        x = Checks.village("house 1 1 1 1 2;");
        x.evening();
        C.due("who brought by law has brought", x.brings(0, 1), STATE);
    }

    private static void bringsNothingBehindEating() {
        C.sentence("Promise 7: STATE: all have eaten");
        EachBrings x = Checks.village(ANY.repeat(2));
        C.due("eat(0)", x.eat(0), 0);
        C.due("brings(0, 0)", x.brings(0, 0), STATE);
        C.due("brings(1, 3)", x.brings(1, 3), STATE);
        C.due("count(1)", x.count(1), 0);
        C.due("count(2)", x.count(2), 0);
        x.year();
        C.due("a year later", x.brings(0, 0), 1);
    }

    private static void bringsIsBadAheadOfState() {
        C.sentence("Refused, the first of these: BAD .. STATE (brings)");
        EachBrings x = Checks.village("house 1 0 0 0 1;");
        x.brings(0, 0);
        C.due("has brought; no such sort", x.brings(0, 4), BAD);
        C.due("has brought; no such sort", x.brings(0, -1), BAD);
        x.eat(0);
        C.due("all have eaten; no such sort", x.brings(0, 4), BAD);
        C.due("all have eaten; no such house", x.brings(1, 0), BAD);
        C.due("all have eaten; no such house", x.brings(-1, 0), BAD);
        C.due("all have eaten", x.brings(0, 0), STATE);
    }

    private static void eveningOfThoseWhoHaveNot() {
        for (int law = 0; law <= 2; law++) {
            C.sentence("EVENING: who has not brought any and can bring some BRINGS by LAW " + law
                    + "; Promise 8: how many HOUSES brought by LAW");
            EachBrings x = Checks.village(ANY + "house 0 0 0 0 9;" + ANY.repeat(3) + "house 0 0 0 1 1;law " + law + ";");
            x.brings(2, 1);
            C.due("evening()", x.evening(), 4);
            C.due("who can't brings none", x.house(1, 6), NONE);
            C.due("who brought brings no more", x.house(2, 6), 1);
            C.due("the last one brings", x.house(5, 6), 3);
            C.due("count(1)", x.count(1), 5);
            C.due("count(2)", x.count(2), 5);
            int[] brought = new int[6];
            for (int h = 0; h < 6; h++) {
                brought[h] = x.house(h, 6);
            }
            C.due("evening() again", x.evening(), 0);
            for (int h = 0; h < 6; h++) {
                C.due("house(" + h + ", 6) stays", x.house(h, 6), brought[h]);
            }
            C.due("count(2)", x.count(2), 5);
            x = Checks.village("law " + law + ";");
            C.due("no house", x.evening(), 0);
            x = Checks.village("house 0 0 0 0 1;".repeat(6) + "law " + law + ";");
            C.due("none that can", x.evening(), 0);
            x = Checks.village(ANY.repeat(6) + "law " + law + ";");
            C.due("all six", x.evening(), 6);
            x = Checks.village("house 0 1 0 0 4;pride 5;law " + law + ";");
            x.evening();
            C.due("EATS and PRIDE spoons", x.table(1, 0), 9);
        }
    }

    private static void eveningBehindEating() {
        C.sentence("Promise 8: STATE: all have eaten");
        EachBrings x = new EachBrings();
        x.eat(0);
        C.due("no house", x.evening(), STATE);
        x = Checks.village(ANY.repeat(2));
        x.brings(0, 0);
        x.eat(1);
        C.due("evening()", x.evening(), STATE);
        C.due("count(1)", x.count(1), 1);
        C.due("the lot stays", x.lot(1), 1);
        x.year();
        C.due("a year later", x.evening(), 2);
    }

    private static void theLotGoesOn() {
        C.sentence("FREE: THE LOT goes on (times 1103515245 and 12345, wrapped)");
        int[] lots = {0, 1, 2, -1, 12345, Integer.MAX_VALUE, Integer.MIN_VALUE, 1103515245};
        long[] due = {12345, 1103527590L, 2207042835L - 4294967296L, -1103502900L};
        for (int i = 0; i < lots.length; i++) {
            EachBrings x = Checks.village(ANY);
            x.lot(lots[i]);
            x.evening();
            long wrapped = (int) (lots[i] * 1103515245L + 12345L);
            C.due("of lot " + lots[i], x.lot(0), wrapped);
            C.holds("by hand too", i >= due.length || wrapped == due[i]);
        }
        EachBrings x = Checks.village(ANY.repeat(6));
        x.evening();
        int lot = 1;
        for (int h = 0; h < 6; h++) {
            lot = (int) (lot * 1103515245L + 12345L);
            C.due("house by house: house(" + h + ", 6)", x.house(h, 6), (lot >>> 16) % 4);
        }
        C.due("once a house", x.lot(0), lot);
    }

    /** The lot ahead of a lot: the factor is odd, so it has an inverse. */
    private static int lotAheadOf(int lot) {
        int inverse = 1;
        for (int i = 0; i < 6; i++) {
            inverse *= 2 - 1103515245 * inverse;
        }
        return (lot - 12345) * inverse;
    }

    private static void drawsOfEachNumber() {
        C.sentence("the first SORT up to which its WEIGHTS together are more than DRAW");
        int[][] rows = {{1, 2, 3, 4}, {9, 9, 9, 9}, {0, 1, 0, 1}, {1, 0, 0, 9}, {0, 0, 0, 3}, {5, 0, 5, 0}, {1, 1, 1, 1}};
        for (int[] row : rows) {
            int together = row[0] + row[1] + row[2] + row[3];
            for (int draw = 0; draw < together; draw++) {
                EachBrings x = Checks.village("house " + row[0] + " " + row[1] + " " + row[2] + " " + row[3] + " 1;");
                x.lot(lotAheadOf(draw << 16 | 0xffff));
                x.evening();
                C.due("the lot", x.lot(0), draw << 16 | 0xffff);
                int due = draw < row[0] ? 0 : draw < row[0] + row[1] ? 1 : draw < together - row[3] ? 2 : 3;
                C.due("draw " + draw + " of " + together, x.house(0, 6), due);
            }
        }
    }

    private static void drawsOfUpperBits() {
        C.sentence("DRAW: its upper 16 bits, left over by all its WEIGHTS together");
        // Of weights 1 2 3 4: the first of 10 is sort 0, two are 1, three 2, four 3.
        int[] uppers = {0, 1, 9, 10, 11, 19, 0x7ffd, 0x7fff, 0x8000, 0x8008, 0xfffe, 0xffff};
        int[] sorts = {0, 1, 3, 0, 1, 3, 2, 3, 3, 3, 2, 2};
        for (int i = 0; i < uppers.length; i++) {
            for (int lower : new int[] {0, 0x7fff, 0x8000, 0xffff}) {
                EachBrings x = Checks.village("house 1 2 3 4 1;");
                x.lot(lotAheadOf(uppers[i] << 16 | lower));
                x.evening();
                C.due("upper bits " + uppers[i], x.house(0, 6), sorts[i]);
            }
        }
    }

    private static void onlyDrawersDraw() {
        C.sentence("FREE: THE LOT goes on for who has not brought any and can bring some, for no other");
        EachBrings x = Checks.village("house 0 0 0 0 1;" + ANY.repeat(2));
        x.brings(1, 0);
        x.evening();
        C.due("one has drawn", x.lot(1), 1103527590);
        x = Checks.village("house 0 0 0 0 1;".repeat(6));
        x.evening();
        C.due("none has drawn", x.lot(1), 1);
        for (int law = 1; law <= 2; law++) {
            x = Checks.village(ANY.repeat(6) + "law " + law + ";");
            x.evening();
            C.due("by law " + law + " none draws", x.lot(1), 1);
        }
        x = Checks.village(ANY);
        x.brings(0, 0);
        C.due("who brings draws not", x.lot(1), 1);
    }

    private static void letters() {
        C.sentence("LETTERS: the SORT of its number, left over by 4, if it can, else the next it can, round");
        // Of each set of sorts what houses 0 .. 3 bring; 4 and 5 as 0 and 1.
        int[][] due = {{NONE, NONE, NONE, NONE}, {0, 0, 0, 0}, {1, 1, 1, 1}, {0, 1, 0, 0}, {2, 2, 2, 2}, {0, 2, 2, 0},
            {1, 1, 2, 1}, {0, 1, 2, 0}, {3, 3, 3, 3}, {0, 3, 3, 3}, {1, 1, 3, 3}, {0, 1, 3, 3}, {2, 2, 2, 3},
            {0, 2, 2, 3}, {1, 1, 2, 3}, {0, 1, 2, 3}};
        for (int set = 0; set < 16; set++) {
            String house = "house " + (set & 1) + " " + 9 * (set >> 1 & 1) + " " + (set >> 2 & 1) + " "
                    + 9 * (set >> 3 & 1) + " 1;";
            EachBrings x = Checks.village(house.repeat(6) + "law 1;");
            C.due("evening()", x.evening(), set == 0 ? 0 : 6);
            for (int h = 0; h < 6; h++) {
                C.due(house + " as house " + h, x.house(h, 6), due[set][h % 4]);
            }
        }
        EachBrings x = Checks.village(ANY.repeat(6) + "law 1;");
        x.brings(0, 3);
        x.evening();
        C.due("its number, not how many brought", x.house(1, 6), 1);
    }

    private static void boardByFewest() {
        C.sentence("BOARD: of SORTS it can that which the fewest HOUSES brought by then");
        EachBrings x = Checks.village("house 9 0 0 0 1;house 9 0 0 0 1;house 9 1 0 0 1;house 9 1 0 0 1;house 9 1 0 0 1;"
                + "house 9 9 0 0 1;law 2;");
        x.evening();
        int[] due = {0, 0, 1, 1, 0, 1};
        for (int h = 0; h < 6; h++) {
            C.due("house(" + h + ", 6)", x.house(h, 6), due[h]);
        }
        C.sentence("BOARD: HOUSES are counted, not spoons");
        x = Checks.village("house 1 0 0 0 1;house 1 0 0 0 1;house 0 1 0 0 9;house 9 1 0 0 1;law 2;");
        x.evening();
        C.due("one of 9 spoons is fewer than two of 1", x.house(3, 6), 1);
        C.sentence("BOARD: of SORTS it can");
        x = Checks.village("house 0 0 5 0 1;house 0 0 5 0 1;house 0 0 1 0 1;law 2;");
        x.evening();
        C.due("the only one it can", x.house(2, 6), 2);
    }

    private static void boardByWeight() {
        C.sentence("BOARD: of several the greatest WEIGHT");
        for (int s = 0; s < 4; s++) {
            EachBrings x = Checks.village("house " + "8 ".repeat(s) + "9 " + "8 ".repeat(3 - s) + "1;law 2;");
            x.evening();
            C.due("weight 9 among 8", x.house(0, 6), s);
        }
        EachBrings x = Checks.village("house 0 0 1 2 1;house 3 2 9 9 1;house 2 3 9 9 1;law 2;");
        x.evening();
        C.due("house(0, 6)", x.house(0, 6), 3);
        C.due("9 of what none brought", x.house(1, 6), 2);
        C.due("3 of what none brought", x.house(2, 6), 1);
    }

    private static void boardByLeast() {
        C.sentence("BOARD: of these the least SORT");
        EachBrings x = Checks.village("house 5 5 5 5 1;".repeat(6) + "law 2;");
        x.evening();
        int[] due = {0, 1, 2, 3, 0, 1};
        for (int h = 0; h < 6; h++) {
            C.due("house(" + h + ", 6)", x.house(h, 6), due[h]);
        }
        x = Checks.village("house 1 9 8 9 1;law 2;");
        x.evening();
        C.due("1 and 3 are of weight 9", x.house(0, 6), 1);
    }

    private static void boardByThen() {
        C.sentence("BOARD: brought by then (by whomever)");
        EachBrings x = Checks.village("house 9 8 0 0 1;house 9 8 0 0 1;law 2;");
        x.brings(1, 0);
        x.evening();
        C.due("a later house had brought 0", x.house(0, 6), 1);
        x.year();
        x.evening();
        C.due("what was brought last year is not on it", x.house(0, 6), 0);
    }

    private static void tableOfEachSort() {
        C.sentence("Promise 9: 0 spoons that were brought, 1 that are left, 2 how many HOUSES brought it");
        EachBrings x = Checks.village("house 0 0 0 1 9;".repeat(6) + "pride 9;");
        x.evening();
        C.due("all there can be", x.table(3, 0), 108);
        C.due("all are left", x.table(3, 1), 108);
        C.due("all houses", x.table(3, 2), 6);
        C.due("of another sort", x.table(2, 0) + x.table(2, 1) + x.table(2, 2), 0);
        x.eat(0);
        C.due("brought stays", x.table(3, 0), 108);
        C.due("54 are left", x.table(3, 1), 54);
        C.due("who brought stays", x.table(3, 2), 6);
        x.year();
        for (int what = 0; what < 3; what++) {
            C.due("a year later table(3, " + what + ")", x.table(3, what), 0);
        }
    }

    private static void tableIsBad() {
        C.sentence("Promise 9: BAD");
        EachBrings x = Checks.village(ANY);
        C.due("table(4, 0)", x.table(4, 0), BAD);
        C.due("table(3, 2)", x.table(3, 2), 0);
        C.due("table(0, 3)", x.table(0, 3), BAD);
        for (int far : FAR) {
            C.due("table(" + far + ", 0)", x.table(far, 0), BAD);
            C.due("table(0, " + far + ")", x.table(0, far), BAD);
        }
    }

    private static void eatOnce() {
        C.sentence("All EAT, once an evening; Promise 10: STATE: they have");
        for (int way = 0; way <= 1; way++) {
            EachBrings x = Checks.village("house 1 0 0 0 1;pride 9;");
            x.evening();
            C.due("eat(" + way + ")", x.eat(way), 1);
            C.due("eat(0) again", x.eat(0), STATE);
            C.due("eat(1) again", x.eat(1), STATE);
            C.due("no more is eaten", x.count(2), 9);
            x.year();
            x.evening();
            C.due("on the next evening they may", x.eat(way), 1);
        }
        EachBrings x = new EachBrings();
        C.due("without houses", x.eat(0), 0);
        C.due("they have", x.eat(0), STATE);
        x = Checks.village(ANY);
        C.due("of nothing", x.eat(1), 0);
        C.due("they have", x.eat(1), STATE);
    }

    private static void eatIsBad() {
        C.sentence("Promise 10: BAD; the first of these: BAD .. STATE");
        EachBrings x = Checks.village(ANY);
        x.evening();
        C.due("eat(2)", x.eat(2), BAD);
        for (int far : FAR) {
            C.due("eat(" + far + ")", x.eat(far), BAD);
        }
        C.due("nothing was eaten", x.count(2), 1);
        C.due("they have not", x.hungry(0), STATE);
        x.eat(0);
        C.due("eat(2), they have", x.eat(2), BAD);
        C.due("eat(-1), they have", x.eat(-1), BAD);
    }

    private static void eatEitherWay() {
        C.sentence("from HOUSE 0 on or from the last one back");
        String text = "house 0 0 0 0 2;house 0 0 0 0 2;house 0 0 0 0 2;house 5 0 0 0 5;";
        int[][] due = {{2, 2, 1, 0}, {0, 0, 0, 5}};
        for (int way = 0; way <= 1; way++) {
            EachBrings x = Checks.village(text);
            x.evening();
            C.due("eat(" + way + ")", x.eat(way), 5);
            for (int h = 0; h < 4; h++) {
                C.due("eat(" + way + "), ate(" + h + ", 0)", x.ate(h, 0), due[way][h]);
            }
        }
        EachBrings x = Checks.village("house 3 0 0 0 3;" + "house 0 0 0 0 1;".repeat(5));
        x.evening();
        x.eat(1);
        int[] back = {0, 0, 0, 1, 1, 1};
        for (int h = 0; h < 6; h++) {
            C.due("six, back: ate(" + h + ", 0)", x.ate(h, 0), back[h]);
        }
    }

    private static void eatAsLongAsLess() {
        C.sentence("each as long as it has less than it EATS; Promise 10: how many spoons");
        for (int eats = 1; eats <= 9; eats++) {
            EachBrings x = Checks.village("house 1 0 0 0 " + eats + ";pride 9;");
            x.evening();
            C.due("eat(0)", x.eat(0), eats);
            C.due("ate(0, 0)", x.ate(0, 0), eats);
            C.due("left", x.table(0, 1), 9);
            C.due("hungry(0)", x.hungry(0), 0);
        }
        EachBrings x = Checks.village("house 1 0 0 0 9;".repeat(6));
        x.evening();
        C.due("all there is", x.eat(0), 54);
        C.due("nothing is left", x.count(2), 0);
    }

    private static void eatOfTheMost() {
        C.sentence("a spoon of the SORT of which there is most left");
        // 4 of sort 0, 7 of sort 3: 3 3 3, then 0 and 3 in turn from 4 and 4 on.
        EachBrings x = Checks.village("house 1 0 0 0 4;house 0 0 0 1 7;");
        x.evening();
        x.eat(0);
        C.due("ate(0, 3)", x.ate(0, 3), 3);
        C.due("ate(0, 0)", x.ate(0, 0), 1);
        C.due("ate(1, 0)", x.ate(1, 0), 3);
        C.due("ate(1, 3)", x.ate(1, 3), 4);
        x = Checks.village("house 0 0 0 0 1;house 1 0 0 0 3;house 0 1 0 0 4;");
        x.evening();
        x.eat(0);
        C.due("4 is more than 3", x.ate(0, 1), 1);
    }

    private static void eatOfSeveralTheLeast() {
        C.sentence("(of several the least)");
        for (int least = 0; least < 4; least++) {
            StringBuilder text = new StringBuilder("house 0 0 0 0 1;");
            for (int s = 3; s >= least; s--) {
                text.append("house ").append("0 ".repeat(s)).append("1 ").append("0 ".repeat(3 - s)).append("5;");
            }
            EachBrings x = Checks.village(text.toString());
            x.evening();
            x.eat(0);
            for (int s = 0; s < 4; s++) {
                C.due("from " + least + " on alike: ate(0, " + s + ")", x.ate(0, s), s == least ? 1 : 0);
            }
        }
    }

    private static void eatNothingBarred() {
        C.sentence("of those from which it is not BARRED");
        for (int free = 0; free < 4; free++) {
            StringBuilder text = new StringBuilder("house 0 0 0 0 9;");
            for (int s = 0; s < 4; s++) {
                text.append("house ").append("0 ".repeat(s)).append("1 ").append("0 ".repeat(3 - s)).append("1;");
                text.append(s == free ? "" : "bar 0 " + s + ";");
            }
            EachBrings x = Checks.village(text.append("pride 2;").toString());
            x.evening();
            x.eat(0);
            for (int s = 0; s < 4; s++) {
                C.due("may eat " + free + ": ate(0, " + s + ")", x.ate(0, s), s == free ? 3 : 0);
            }
            C.due("it stays hungry", x.hungry(0), 6);
        }
        EachBrings x = Checks.village("house 1 1 1 1 5;bar 0 0;bar 0 1;bar 0 2;bar 0 3;");
        x.evening();
        C.due("barred from all", x.eat(0), 0);
        C.due("all is left", x.count(2), 5);
        C.due("hungry(0)", x.hungry(0), 5);
    }

    private static void eatNothingEmpty() {
        C.sentence("and that are not empty");
        EachBrings x = Checks.village("house 0 0 1 0 2;house 0 0 0 0 9;");
        x.evening();
        C.due("eat(1)", x.eat(1), 2);
        C.due("ate(1, 2)", x.ate(1, 2), 2);
        C.due("ate(0, 2)", x.ate(0, 2), 0);
        for (int s = 0; s < 4; s++) {
            C.due("table(" + s + ", 1)", x.table(s, 1), 0);
        }
    }

    private static void ate() {
        C.sentence("Promise 11: How many spoons of a SORT a HOUSE ate");
        EachBrings x = Checks.village("house 0 0 0 1 3;house 0 1 0 0 9;bar 1 3;");
        x.evening();
        for (int s = 0; s < 4; s++) {
            C.due("ahead of eating ate(0, " + s + ")", x.ate(0, s), 0);
        }
        x.eat(0);
        int[][] due = {{0, 3, 0, 0}, {0, 6, 0, 0}};
        for (int h = 0; h < 2; h++) {
            for (int s = 0; s < 4; s++) {
                C.due("ate(" + h + ", " + s + ")", x.ate(h, s), due[h][s]);
            }
        }
        x.year();
        C.due("a year later ate(1, 1)", x.ate(1, 1), 0);
        C.sentence("Promise 11: BAD");
        C.due("ate(2, 0)", x.ate(2, 0), BAD);
        C.due("ate(0, 4)", x.ate(0, 4), BAD);
        C.due("ate(1, 3)", x.ate(1, 3), 0);
        for (int far : FAR) {
            C.due("ate(" + far + ", 0)", x.ate(far, 0), BAD);
            C.due("ate(0, " + far + ")", x.ate(0, far), BAD);
        }
    }

    private static void hungry() {
        C.sentence("HUNGRY: how many spoons it has less");
        EachBrings x = Checks.village("house 4 0 0 0 4;house 0 0 0 0 9;house 0 0 0 0 1;");
        x.evening();
        x.eat(0);
        C.due("it has all", x.hungry(0), 0);
        C.due("it has none", x.hungry(1), 9);
        C.due("it has none", x.hungry(2), 1);
        x.year();
        x.evening();
        x.eat(1);
        C.due("it has none", x.hungry(0), 4);
        C.due("it has some", x.hungry(1), 6);
        C.due("it has all", x.hungry(2), 0);
    }

    private static void hungryIsRefused() {
        C.sentence("Promise 12: BAD; STATE: they have not eaten");
        EachBrings x = Checks.village(ANY.repeat(2));
        C.due("hungry(0)", x.hungry(0), STATE);
        C.due("hungry(1)", x.hungry(1), STATE);
        C.due("hungry(2)", x.hungry(2), BAD);
        for (int far : FAR) {
            C.due("hungry(" + far + ")", x.hungry(far), BAD);
        }
        x.evening();
        C.due("brought only", x.hungry(0), STATE);
        x.eat(0);
        C.due("eaten", x.hungry(1), 0);
        C.due("hungry(2)", x.hungry(2), BAD);
        for (int far : FAR) {
            C.due("eaten: hungry(" + far + ")", x.hungry(far), BAD);
        }
        x.year();
        C.due("a year later", x.hungry(0), STATE);
    }

    private static void yearOfNobody() {
        C.sentence("of each SORT that nobody brought all WEIGHTS above 0 are MEMORY more (9 at most)");
        for (int memory = 0; memory <= 9; memory++) {
            for (int weight = 1; weight <= 9; weight++) {
                EachBrings x = Checks.village("house 1 " + weight + " 0 1 1;house 0 " + weight + " 0 9 1;memory "
                        + memory + ";");
                x.brings(0, 0);
                x.year();
                C.due(weight + " and " + memory, x.house(0, 1), Math.min(9, weight + memory));
                C.due("all of it", x.house(1, 1), Math.min(9, weight + memory));
                C.due("what one brought stays", x.house(0, 0), 1);
                C.due("9 stays", x.house(1, 3), 9);
            }
        }
        EachBrings x = Checks.village("house 1 2 3 8 1;house 9 8 7 1 1;");
        x.year();
        int[][] due = {{2, 3, 4, 9}, {9, 9, 8, 2}};
        for (int h = 0; h < 2; h++) {
            for (int s = 0; s < 4; s++) {
                C.due("none brought any: house(" + h + ", " + s + ")", x.house(h, s), due[h][s]);
            }
        }
    }

    private static void yearOfOne() {
        C.sentence("of each that two or more did (one is not two)");
        for (int s = 0; s < 4; s++) {
            EachBrings x = Checks.village("house 5 5 5 5 1;".repeat(6) + "memory 2;");
            x.brings(5, s);
            x.year();
            for (int other = 0; other < 4; other++) {
                C.due("one brought " + s + ": house(0, " + other + ")", x.house(0, other), s == other ? 5 : 7);
            }
        }
    }

    private static void yearOfTwoOrMore() {
        C.sentence("of each that two or more did MEMORY less (1 at least)");
        for (int many = 2; many <= 6; many++) {
            for (int memory = 0; memory <= 9; memory++) {
                EachBrings x = Checks.village("house 4 9 0 0 1;".repeat(5) + "house 9 1 0 0 1;memory " + memory + ";");
                for (int h = 6 - many; h < 6; h++) {
                    x.brings(h, 0);
                }
                x.year();
                C.due(many + " brought it, 4 less " + memory, x.house(0, 0), Math.max(1, 4 - memory));
                C.due(many + " brought it, 9 less " + memory, x.house(5, 0), Math.max(1, 9 - memory));
                C.due("another one", x.house(5, 1), Math.min(9, 1 + memory));
            }
        }
        EachBrings x = Checks.village("house 1 0 0 0 1;house 2 0 0 0 1;");
        x.evening();
        x.year();
        C.due("1 stays", x.house(0, 0), 1);
        C.due("2 is 1", x.house(1, 0), 1);
        x.evening();
        x.year();
        C.due("1 stays", x.house(1, 0), 1);
    }

    private static void yearOfCantBring() {
        C.sentence("all WEIGHTS above 0 (a 0 stays)");
        for (int memory = 0; memory <= 9; memory++) {
            EachBrings x = Checks.village("house 0 0 1 0 1;house 0 1 1 0 1;house 0 0 0 0 1;memory " + memory + ";");
            x.brings(0, 2);
            x.brings(1, 2);
            x.year();
            C.due("nobody brought it: house(0, 0)", x.house(0, 0), 0);
            C.due("nobody brought it: house(0, 1)", x.house(0, 1), 0);
            C.due("two brought it: house(2, 2)", x.house(2, 2), 0);
            C.due("two brought it, 1 stays: house(0, 2)", x.house(0, 2), 1);
            C.due("still it can't", x.brings(0, 0), STATE);
        }
    }

    private static void yearOfMemoryNone() {
        C.sentence("MEMORY (0 .. 9): 0 changes no WEIGHT");
        EachBrings x = Checks.village("house 5 5 5 0 1;house 5 5 5 0 1;memory 0;");
        x.brings(0, 0);
        x.brings(1, 0);
        x.year();
        x.brings(0, 1);
        x.year();
        for (int s = 0; s < 4; s++) {
            C.due("house(0, " + s + ")", x.house(0, s), s == 3 ? 0 : 5);
        }
    }

    private static void yearClears() {
        EachBrings x = Checks.village("house 1 0 0 0 1;house 0 0 1 0 9;house 0 1 0 1 1;pride 9;");
        x.evening();
        x.eat(0);
        x.ill(0, 1);
        x.ill(1, 0);
        int lot = x.lot(44);
        C.sentence("a YEAR: THE LOT is as the evening left it");
        C.due("it went on three times", lot, (int) (((1103527590L * 1103515245L + 12345L) * 1103515245L) + 12345L));
        x.year();
        C.due("a year leaves it", x.lot(44), 44);
        C.sentence("then nothing is brought");
        C.due("count(1)", x.count(1), 0);
        C.due("count(2)", x.count(2), 0);
        for (int h = 0; h < 3; h++) {
            C.due("house(" + h + ", 6)", x.house(h, 6), NONE);
        }
        for (int s = 0; s < 4; s++) {
            for (int what = 0; what < 3; what++) {
                C.due("table(" + s + ", " + what + ")", x.table(s, what), 0);
            }
        }
        C.due("shared()", x.shared(), 0);
        C.sentence("nobody has eaten");
        for (int h = 0; h < 3; h++) {
            C.due("hungry(" + h + ")", x.hungry(h), STATE);
            C.due("rate(2, " + h + ")", x.rate(2, h), h == 1 ? 9 : 1);
            for (int s = 0; s < 4; s++) {
                C.due("ate(" + h + ", " + s + ")", x.ate(h, s), 0);
            }
        }
        C.due("brings(1, 2)", x.brings(1, 2), 18);
        C.due("eat(0)", x.eat(0), 11);
        C.sentence("nobody is told ILL");
        C.due("count(3)", x.count(3), 0);
        C.due("suspects()", x.suspects(), 15);
        C.due("it is news again", x.ill(0, 1), 1);
        C.due("it is news again", x.ill(1, 0), 1);
    }

    private static void yearIsCounted() {
        C.sentence("Promise 13: A YEAR goes by: the YEAR then");
        EachBrings x = new EachBrings();
        for (int year = 1; year <= 250; year++) {
            C.due("year()", x.year(), year);
            C.due("count(4)", x.count(4), year);
        }
        x = Checks.village("house 1 0 0 0 1;house 1 0 0 0 1;");
        C.due("with nothing brought", x.year(), 1);
        x.evening();
        C.due("without eating", x.year(), 2);
        C.due("what was brought counts without eating", x.house(0, 0), 1);
        x.evening();
        x.eat(0);
        C.due("behind eating", x.year(), 3);
        C.due("house(0, 0)", x.house(0, 0), 1);
    }

    private static void lot() {
        C.sentence("Promise 14: THE LOT becomes v: what it was");
        EachBrings x = Checks.village(ANY);
        int was = 1;
        for (int v : new int[] {0, -1, Integer.MAX_VALUE, Integer.MIN_VALUE, 65536, 1, 1}) {
            C.due("lot(" + v + ")", x.lot(v), was);
            was = v;
        }
        x.evening();
        C.due("as an evening left it", x.lot(7), 1103527590);
        x.eat(0);
        C.due("behind eating too", x.lot(8), 7);
    }
}
