/** Promises 20 to 27, sentence by sentence: each edge of illness, thrift, kinds, images, counts, the trace. */
public final class KindsEdgesTest {
    private static final Checks C = new Checks();
    private static final int BAD = EachBrings.BAD, STATE = EachBrings.STATE, NONE = EachBrings.NONE;
    private static final int NO = EachBrings.NO;
    private static final String ANY = "house 1 1 1 1 1;";
    private static final String CANT = "house 0 0 0 0 1;";
    private static final int[] FAR = {-1, -2, 6, 7, 8, 9, 31, 32, 33, 64, 256, 1 << 16, -1000000,
        Integer.MIN_VALUE, Integer.MIN_VALUE + 1, Integer.MAX_VALUE};

    public static void main(String[] args) {
        illIsNews();
        illIsBad();
        illAheadOfEating();
        illIsBadAheadOfState();
        suspectsOfNobody();
        suspectsOfTheIll();
        suspectsOfTheWell();
        suspectsOfNoSpoons();
        restsOfEachVillage();
        restsByTheLeastSort();
        restsAsTheyAre();
        restsIsBad();
        rateOfEachKind();
        rateOfSorts();
        rateBelowNought();
        rateIsNo();
        traceOfEachKind();
        traceOfManyCalls();
        keepTellsTheYear();
        keepIsBad();
        keepAnew();
        backTellsTheYear();
        backIsRefused();
        imagesKeepWeights();
        imagesKeepWhatWasBrought();
        imagesKeepWhatIsLeft();
        imagesKeepWhoAte();
        imagesKeepTheIll();
        imagesKeepTheLot();
        imagesKeepNothingElse();
        imagesAreTwo();
        countOfEach();
        countIsBad();
        C.end();
    }

    private static void illIsNews() {
        C.sentence("Promise 20: A HOUSE is told ILL (1), well (0): 1, if that is news");
        for (int first = 0; first <= 1; first++) {
            EachBrings x = Checks.village(ANY.repeat(6));
            x.evening();
            x.eat(0);
            for (int h = 0; h < 6; h++) {
                C.due("it was not told", x.ill(h, first), 1);
                C.due("count(3)", x.count(3), h + 1);
                C.due("it was told so", x.ill(h, first), 0);
                C.due("it was told the other", x.ill(h, 1 - first), 1);
                C.due("it was told so", x.ill(h, 1 - first), 0);
                C.due("told again it is the same house", x.count(3), h + 1);
            }
        }
        EachBrings x = Checks.village(ANY);
        x.eat(0);
        C.due("who ate nothing may be told", x.ill(0, 1), 1);
    }

    private static void illIsBad() {
        C.sentence("Promise 20: BAD");
        EachBrings x = Checks.village(ANY.repeat(2));
        x.eat(0);
        C.due("ill(2, 1)", x.ill(2, 1), BAD);
        C.due("ill(0, 2)", x.ill(0, 2), BAD);
        for (int far : FAR) {
            C.due("ill(" + far + ", 1)", x.ill(far, 1), BAD);
            C.due("ill(0, " + far + ")", x.ill(0, far), BAD);
        }
        C.due("count(3)", x.count(3), 0);
    }

    private static void illAheadOfEating() {
        C.sentence("Promise 20: STATE: they have not eaten");
        EachBrings x = Checks.village(ANY);
        C.due("nothing is brought", x.ill(0, 1), STATE);
        x.evening();
        C.due("not eaten", x.ill(0, 0), STATE);
        C.due("count(3)", x.count(3), 0);
        x.eat(0);
        C.due("eaten", x.ill(0, 0), 1);
        x.year();
        C.due("a year later", x.ill(0, 0), STATE);
    }

    private static void illIsBadAheadOfState() {
        C.sentence("Refused, the first of these: BAD .. STATE (ill)");
        EachBrings x = Checks.village(ANY);
        C.due("ill(1, 1)", x.ill(1, 1), BAD);
        C.due("ill(-1, 1)", x.ill(-1, 1), BAD);
        C.due("ill(0, 2)", x.ill(0, 2), BAD);
        C.due("ill(0, -1)", x.ill(0, -1), BAD);
        C.due("ill(0, 1)", x.ill(0, 1), STATE);
    }

    private static void suspectsOfNobody() {
        C.sentence("SUSPECTS: none is told");
        EachBrings x = new EachBrings();
        C.due("a new object", x.suspects(), 15);
        x = Checks.village(ANY);
        C.due("ahead of eating", x.suspects(), 15);
        x.evening();
        x.eat(0);
        C.due("behind eating", x.suspects(), 15);
    }

    /** Houses that each may eat one sort only, and one that brings them all. */
    private static EachBrings dinner() {
        EachBrings x = Checks.village("house 1 0 0 0 1;house 0 1 0 0 1;house 0 0 1 0 1;house 0 0 0 1 1;house 0 0 0 0 4;"
                + "house 0 0 0 0 9;bar 0 1;bar 0 2;bar 0 3;bar 1 0;bar 1 2;bar 1 3;bar 2 0;bar 2 1;bar 2 3;"
                + "bar 3 0;bar 3 1;bar 3 2;pride 1;bar 5 0;bar 5 1;bar 5 2;bar 5 3;");
        x.evening();
        // Two spoons a sort: one for the house that may, one for house 4; none for house 5.
        x.eat(0);
        return x;
    }

    private static void suspectsOfTheIll() {
        C.sentence("SUSPECTS: SORTS (bits) of which each that is ILL ate");
        for (int h = 0; h < 4; h++) {
            EachBrings x = dinner();
            x.ill(h, 1);
            C.due("who ate of " + h + " is ill", x.suspects(), 1 << h);
            x.ill(4, 1);
            C.due("and who ate of all", x.suspects(), 1 << h);
            x.ill((h + 1) % 4, 1);
            C.due("and who ate of another", x.suspects(), 0);
        }
        EachBrings x = dinner();
        x.ill(4, 1);
        C.due("who ate of all is ill", x.suspects(), 15);
        x.ill(5, 1);
        C.due("who ate nothing is ill", x.suspects(), 0);
    }

    private static void suspectsOfTheWell() {
        C.sentence("SUSPECTS: none that is well did");
        for (int h = 0; h < 4; h++) {
            EachBrings x = dinner();
            x.ill(h, 0);
            C.due("who ate of " + h + " is well", x.suspects(), 15 - (1 << h));
            x.ill(4, 1);
            C.due("who ate of all is ill", x.suspects(), 15 - (1 << h));
            x.ill(h, 1);
            C.due("told anew", x.suspects(), 1 << h);
        }
        EachBrings x = dinner();
        x.ill(4, 0);
        C.due("who ate of all is well", x.suspects(), 0);
        x = dinner();
        x.ill(5, 0);
        C.due("who ate nothing is well", x.suspects(), 15);
    }

    private static void suspectsOfNoSpoons() {
        C.sentence("SUSPECTS: (0 spoons)");
        EachBrings x = Checks.village("house 1 0 0 0 1;house 0 0 0 0 1;house 0 0 1 0 2;");
        x.evening();
        x.eat(0);
        // 1 spoon of sort 0, 2 of sort 2: house 0 eats of 2, house 1 of 0, house 2 of 2.
        x.ill(0, 1);
        x.ill(1, 0);
        C.due("one spoon is some", x.suspects(), 4);
        x.ill(2, 0);
        C.due("one spoon is some", x.suspects(), 0);
    }

    /** All rows of what six houses like most: of each sort one brings, or none, by what it costs. */
    private static void restsOfEachVillage() {
        C.sentence("A REST: none has more by doing otherwise alone: how many there are; the first by who brings");
        for (int row = 0; row < 5 * 5 * 5 * 5 * 5 * 5; row++) {
            int[] houses = new int[5];
            int[] least = new int[5];
            StringBuilder text = new StringBuilder();
            int rest = row;
            for (int h = 0; h < 6; h++) {
                int s = rest % 5;
                rest /= 5;
                text.append(s == 4 ? CANT : "house " + "0 ".repeat(s) + "1 " + "0 ".repeat(3 - s) + "1;");
                least[s] = houses[s] == 0 ? 1 << h : least[s];
                houses[s]++;
            }
            int cheap = 1;
            int even = 1;
            int first = 0;
            for (int s = 0; s < 4; s++) {
                cheap *= Math.max(1, houses[s]);
                even *= 1 + houses[s];
                first |= least[s];
            }
            EachBrings x = Checks.village(text.toString());
            C.due("a cost below its worth: " + text, x.rests(1, 2, 0), cheap);
            C.due("a cost below its worth, the first", x.rests(98, 99, 1), first);
            C.due("a cost as its worth: " + text, x.rests(99, 99, 0), even);
            C.due("a cost as its worth, the first", x.rests(1, 1, 1), 0);
            C.due("a cost above its worth: " + text, x.rests(2, 1, 0), 1);
            C.due("a cost above its worth, the first", x.rests(99, 98, 1), 0);
        }
    }

    private static void restsByTheLeastSort() {
        C.sentence("THRIFT: each HOUSE that can brings the SORT of its greatest WEIGHT (of several the least)");
        EachBrings x = Checks.village("house 2 2 2 2 1;house 1 2 2 0 1;house 8 9 8 9 1;house 0 0 0 1 1;");
        // Sorts 0, 1, 1, 3.
        C.due("rests(1, 2, 0)", x.rests(1, 2, 0), 2);
        C.due("rests(1, 2, 1)", x.rests(1, 2, 1), 1 + 2 + 8);
        C.due("rests(2, 2, 0)", x.rests(2, 2, 0), 2 * 3 * 2);
    }

    private static void restsAsTheyAre() {
        C.sentence("(Nothing is changed.) THRIFT by WEIGHTS as they are");
        EachBrings x = Checks.village("house 5 4 0 0 1;house 5 4 0 0 1;memory 9;");
        C.due("both like 0", x.rests(1, 2, 0), 2);
        x.brings(0, 0);
        C.due("what was brought is nothing to it", x.rests(1, 2, 1), 1);
        x.brings(1, 0);
        x.eat(0);
        C.due("nor what was eaten", x.rests(1, 2, 0), 2);
        C.due("count(1)", x.count(1), 2);
        x.year();
        x.brings(0, 0);
        x.brings(1, 1);
        C.due("both like 1 then", x.rests(1, 2, 0), 2);
        x = Checks.village("house 5 4 0 0 1;house 5 0 0 0 1;memory 9;");
        x.brings(0, 0);
        x.brings(1, 0);
        C.due("both like 0", x.rests(1, 2, 0), 2);
        x.year();
        C.due("0 likes 1 then", x.rests(1, 2, 1), 3);
    }

    private static void restsIsBad() {
        C.sentence("by COST c and WORTH w (1 .. 99 each); Promise 22: BAD");
        EachBrings x = Checks.village(ANY);
        int[][] bad = {{0, 1, 0}, {1, 0, 0}, {100, 1, 0}, {1, 100, 0}, {1, 1, 2}, {1, 1, -1}, {0, 0, 0}, {100, 100, 1}};
        for (int[] b : bad) {
            C.due("rests(" + b[0] + ", " + b[1] + ", " + b[2] + ")", x.rests(b[0], b[1], b[2]), BAD);
        }
        for (int far : FAR) {
            boolean isFew = far >= 1 && far <= 99;
            C.due("rests(" + far + ", 99, 1)", x.rests(far, 99, 1), isFew ? 1 : BAD);
            C.due("rests(99, " + far + ", 1)", x.rests(99, far, 1), isFew ? 0 : BAD);
            C.due("rests(1, 1, " + far + ")", x.rests(1, 1, far), BAD);
        }
        C.due("rests(1, 1, 0)", x.rests(1, 1, 0), 2);
        C.due("rests(99, 99, 0)", x.rests(99, 99, 0), 2);
        C.due("rests(1, 99, 1)", x.rests(1, 99, 1), 1);
        C.due("rests(99, 1, 1)", x.rests(99, 1, 1), 0);
    }

    private static void rateOfEachKind() {
        EachBrings x = Checks.village("house 1 0 3 0 4;house 0 0 0 0 9;house 9 9 9 9 7;memory 0;");
        x.year();
        x.year();
        x.year();
        x.brings(0, 0);
        x.eat(1);
        // House 2 ate the 4 spoons.
        int[] eats = {4, 9, 7};
        int[] can = {2, 0, 4};
        int[] ate = {0, 0, 4};
        for (int h = 0; h < 3; h++) {
            C.sentence("RATE: HOUSE what it EATS");
            C.due("rate(0, " + h + ")", x.rate(0, h), eats[h]);
            C.sentence("RATE: COOK up, and how many SORTS it can bring");
            C.due("rate(1, " + h + ")", x.rate(1, h), eats[h] + can[h]);
            C.sentence("RATE: WIDOW up less how many spoons it ate");
            C.due("rate(2, " + h + ")", x.rate(2, h), eats[h] - ate[h]);
            C.sentence("RATE: BAKER twice up");
            C.due("rate(3, " + h + ")", x.rate(3, h), 2 * (eats[h] + can[h]));
            C.sentence("RATE: PARSON up, and its number");
            C.due("rate(4, " + h + ")", x.rate(4, h), eats[h] - ate[h] + h);
            C.sentence("RATE: NEWCOMER up, and the YEAR");
            C.due("rate(5, " + h + ")", x.rate(5, h), eats[h] + 3);
        }
    }

    private static void rateOfSorts() {
        C.sentence("COOK: how many SORTS it can bring (all, some, none; of any WEIGHT above 0)");
        for (int set = 0; set < 16; set++) {
            for (int weight = 1; weight <= 9; weight += 8) {
                EachBrings x = Checks.village("house " + weight * (set & 1) + " " + weight * (set >> 1 & 1) + " "
                        + weight * (set >> 2 & 1) + " " + weight * (set >> 3 & 1) + " 1;");
                C.due("set " + set + ": rate(1, 0)", x.rate(1, 0), 1 + Integer.bitCount(set));
            }
        }
        EachBrings x = Checks.village(ANY.repeat(6));
        C.due("the last house: rate(4, 5)", x.rate(4, 5), 6);
        C.due("the first house: rate(4, 0)", x.rate(4, 0), 1);
        C.due("YEAR 0: rate(5, 5)", x.rate(5, 5), 1);
    }

    private static void rateBelowNought() {
        C.sentence("WIDOW: a house that ate all it EATS has 0 left");
        EachBrings x = Checks.village("house 9 0 0 0 9;");
        x.evening();
        C.due("ahead of eating", x.rate(2, 0), 9);
        x.eat(0);
        C.due("behind eating", x.rate(2, 0), 0);
        C.due("the parson of number 0", x.rate(4, 0), 0);
        x.year();
        C.due("a year later", x.rate(2, 0), 9);
    }

    private static void rateIsNo() {
        C.sentence("Promise 23: NO: BAD; NO: What none is, where a number may be below 0");
        EachBrings x = Checks.village(ANY.repeat(2));
        C.due("rate(6, 0)", x.rate(6, 0), NO);
        C.due("rate(0, 2)", x.rate(0, 2), NO);
        for (int far : FAR) {
            C.due("rate(" + far + ", 0)", x.rate(far, 0), NO);
            for (int kind = 0; kind <= 5; kind++) {
                C.due("rate(" + kind + ", " + far + ")", x.rate(kind, far), NO);
            }
        }
        C.due("no body was asked", x.trace(), 0);
    }

    private static void traceOfEachKind() {
        C.sentence("numbers in brackets are added to THE TRACE as often as rate() asks that body");
        int[] due = {1, 11, 101, 1011, 10101, 100001};
        for (int kind = 0; kind <= 5; kind++) {
            EachBrings x = Checks.village(ANY.repeat(6));
            x.rate(kind, 5);
            C.due("rate(" + kind + ", 5)", x.trace(), due[kind]);
            x.rate(kind, 0);
            C.due("twice", x.trace(), 2L * due[kind]);
            C.due("asking for it adds nothing", x.trace(), 2L * due[kind]);
            x.village();
            C.due("read anew it stays", x.trace(), 2L * due[kind]);
        }
    }

    private static void traceOfManyCalls() {
        C.sentence("THE TRACE of all calls that an object is used for");
        EachBrings x = new EachBrings();
        x.type(Checks.asNumber("house 1 "), 8);
        x.type(Checks.asNumber("1 1 1 1;"), 8);
        x.village();
        for (int i = 0; i < 508; i++) {
            x.rate(5, 0);
        }
        C.due("the 512th call", x.trace(), 508L * 100001);
    }

    private static void keepTellsTheYear() {
        C.sentence("Promise 24: An IMAGE is kept: the YEAR");
        EachBrings x = new EachBrings();
        for (int year = 0; year <= 3; year++) {
            C.due("keep(0)", x.keep(0), year);
            C.due("keep(1)", x.keep(1), year);
            x.year();
        }
    }

    private static void keepIsBad() {
        C.sentence("IMAGES 0, 1; Promise 24: BAD");
        EachBrings x = Checks.village(ANY);
        C.due("keep(2)", x.keep(2), BAD);
        for (int far : FAR) {
            C.due("keep(" + far + ")", x.keep(far), BAD);
        }
        C.due("none was kept", x.back(0), STATE);
        C.due("none was kept", x.back(1), STATE);
    }

    private static void keepAnew() {
        C.sentence("An IMAGE is kept: in the place of the one that was");
        EachBrings x = Checks.village(ANY);
        x.keep(0);
        x.year();
        C.due("keep(0) anew", x.keep(0), 1);
        x.year();
        C.due("back(0)", x.back(0), 1);
        C.due("house(0, 0)", x.house(0, 0), 2);
    }

    private static void backTellsTheYear() {
        C.sentence("Promise 25: All of that becomes as an IMAGE has it: the YEAR");
        EachBrings x = Checks.village(ANY);
        x.year();
        x.keep(0);
        for (int i = 0; i < 3; i++) {
            x.year();
            C.due("back(0)", x.back(0), 1);
            C.due("count(4)", x.count(4), 1);
            C.due("an image stays", x.back(0), 1);
        }
        C.due("years go on from it", x.year(), 2);
        C.sentence("an IMAGE may be of a later YEAR");
        x.year();
        x.keep(1);
        x.back(0);
        C.due("back(1)", x.back(1), 3);
        C.due("house(0, 3)", x.house(0, 3), 4);
    }

    private static void backIsRefused() {
        C.sentence("Promise 25: BAD; STATE: none was kept");
        EachBrings x = Checks.village(ANY);
        C.due("back(2)", x.back(2), BAD);
        for (int far : FAR) {
            C.due("back(" + far + ")", x.back(far), BAD);
        }
        for (int image = 0; image <= 1; image++) {
            x = Checks.village(ANY);
            C.due("back(" + image + ")", x.back(image), STATE);
            x.keep(image);
            C.due("the other one", x.back(1 - image), STATE);
            C.due("this one", x.back(image), 0);
            x.village();
            C.due("read anew", x.back(image), STATE);
            C.due("BAD ahead of STATE", x.back(2), BAD);
        }
    }

    private static void imagesKeepWeights() {
        C.sentence("IMAGES keep NOW: WEIGHTS");
        EachBrings x = Checks.village("house 1 2 0 9 1;house 8 7 6 5 1;house 1 1 1 1 1;house 2 2 2 2 1;house 3 3 3 3 1;"
                + "house 4 4 4 4 1;memory 3;");
        int[][] first = {{1, 2, 0, 9}, {8, 7, 6, 5}, {1, 1, 1, 1}, {2, 2, 2, 2}, {3, 3, 3, 3}, {4, 4, 4, 4}};
        x.keep(1);
        x.year();
        x.keep(0);
        x.year();
        x.back(1);
        for (int h = 0; h < 6; h++) {
            for (int s = 0; s < 4; s++) {
                C.due("house(" + h + ", " + s + ")", x.house(h, s), first[h][s]);
            }
        }
        x.back(0);
        for (int h = 0; h < 6; h++) {
            for (int s = 0; s < 4; s++) {
                C.due("house(" + h + ", " + s + ")", x.house(h, s), first[h][s] == 0 ? 0 : Math.min(9, first[h][s] + 3));
            }
        }
    }

    private static void imagesKeepWhatWasBrought() {
        C.sentence("IMAGES keep NOW: who brought what");
        EachBrings x = Checks.village("house 1 1 1 1 2;".repeat(6) + "pride 1;");
        int[] due = {3, NONE, 0, 0, NONE, 2};
        for (int h = 0; h < 6; h++) {
            x.brings(h, due[h]);
        }
        x.keep(0);
        x.evening();
        x.back(0);
        int[] houses = {2, 0, 1, 1};
        for (int h = 0; h < 6; h++) {
            C.due("house(" + h + ", 6)", x.house(h, 6), due[h]);
        }
        for (int s = 0; s < 4; s++) {
            C.due("table(" + s + ", 0)", x.table(s, 0), 3 * houses[s]);
            C.due("table(" + s + ", 2)", x.table(s, 2), houses[s]);
        }
        C.due("count(1)", x.count(1), 4);
        C.due("who had brought", x.brings(0, 1), STATE);
        C.due("who had not", x.brings(1, 1), 3);
        x.year();
        x.back(0);
        C.due("behind a year", x.house(5, 6), 2);
    }

    private static void imagesKeepWhatIsLeft() {
        C.sentence("IMAGES keep NOW: what is left");
        EachBrings x = Checks.village("house 1 0 0 0 3;house 0 1 0 0 3;house 0 0 1 0 3;house 0 0 0 1 3;pride 2;");
        x.evening();
        x.keep(0);
        x.eat(0);
        x.keep(1);
        x.back(0);
        for (int s = 0; s < 4; s++) {
            C.due("ahead of eating table(" + s + ", 1)", x.table(s, 1), 5);
        }
        x.year();
        x.back(1);
        for (int s = 0; s < 4; s++) {
            C.due("behind eating table(" + s + ", 1)", x.table(s, 1), 2);
        }
        C.due("count(2)", x.count(2), 8);
    }

    private static void imagesKeepWhoAte() {
        C.sentence("IMAGES keep NOW: who ate what");
        EachBrings x = Checks.village("house 1 0 0 0 3;house 0 0 0 1 4;bar 0 0;bar 1 3;");
        x.keep(0);
        x.evening();
        x.eat(0);
        x.keep(1);
        x.back(0);
        C.due("ate(0, 3)", x.ate(0, 3), 0);
        C.due("they have not eaten", x.hungry(0), STATE);
        C.due("nor are told", x.ill(0, 1), STATE);
        C.due("so they may", x.eat(0), 0);
        x.year();
        C.due("back(1)", x.back(1), 0);
        C.due("ate(0, 3)", x.ate(0, 3), 3);
        C.due("ate(1, 0)", x.ate(1, 0), 3);
        C.due("ate(0, 0)", x.ate(0, 0), 0);
        C.due("hungry(0)", x.hungry(0), 0);
        C.due("hungry(1)", x.hungry(1), 1);
        C.due("they have eaten", x.eat(0), STATE);
        C.due("they have eaten", x.evening(), STATE);
        C.due("rate(2, 1)", x.rate(2, 1), 1);
    }

    private static void imagesKeepTheIll() {
        C.sentence("IMAGES keep NOW: ILL ones");
        EachBrings x = Checks.village("house 1 0 0 0 1;house 0 1 0 0 1;" + CANT.repeat(4) + "bar 0 1;bar 1 0;");
        x.evening();
        x.eat(0);
        x.ill(0, 1);
        x.ill(1, 0);
        x.keep(0);
        x.ill(0, 0);
        x.ill(5, 1);
        C.due("count(3)", x.count(3), 3);
        C.due("suspects()", x.suspects(), 0);
        x.keep(1);
        x.back(0);
        C.due("count(3)", x.count(3), 2);
        C.due("suspects()", x.suspects(), 1);
        C.due("0 is ill", x.ill(0, 1), 0);
        C.due("1 is well", x.ill(1, 0), 0);
        C.due("5 was not told", x.ill(5, 0), 1);
        x.year();
        x.back(1);
        C.due("count(3)", x.count(3), 3);
        C.due("5 is ill", x.ill(5, 1), 0);
    }

    private static void imagesKeepTheLot() {
        C.sentence("IMAGES keep NOW: THE LOT");
        EachBrings x = Checks.village(ANY);
        x.lot(-5);
        x.keep(0);
        x.evening();
        x.keep(1);
        x.lot(6);
        x.back(0);
        C.due("lot(7)", x.lot(7), -5);
        x.back(1);
        C.due("lot(7)", x.lot(7), (int) (-5L * 1103515245L + 12345L));
        x.back(0);
        C.due("an image's lot stays", x.lot(7), -5);
    }

    private static void imagesKeepNothingElse() {
        C.sentence("IMAGES keep NOW; nothing else");
        EachBrings x = Checks.village(ANY + "law 2;pride 3;memory 4;bar 0 0;");
        Checks.type(x, "abc");
        x.rate(0, 0);
        x.keep(0);
        x.keep(1);
        Checks.type(x, "de");
        x.rate(1, 0);
        x.year();
        x.back(0);
        C.due("THE TEXT", x.count(5), 5);
        C.due("THE TRACE", x.trace(), 12);
        C.due("LAW", x.told(0), 2);
        C.due("PRIDE", x.told(1), 3);
        C.due("MEMORY", x.told(2), 4);
        C.due("BARRED", x.house(0, 5), 1);
        C.due("EATS", x.house(0, 4), 1);
        C.due("the other IMAGE", x.back(1), 0);
        x.clear();
        x.back(1);
        C.due("THE TEXT stays empty", x.count(5), 0);
        Checks.type(x, "law 1;");
        x.back(0);
        C.due("a text is typed on", Checks.type(x, "pride 1;"), 14);
        C.due("village()", x.village(), 2);
    }

    private static void imagesAreTwo() {
        C.sentence("IMAGES 0, 1 (each its own)");
        EachBrings x = Checks.village(ANY);
        x.keep(0);
        x.year();
        x.keep(1);
        x.year();
        C.due("back(0)", x.back(0), 0);
        C.due("back(1)", x.back(1), 1);
        C.due("back(0)", x.back(0), 0);
        C.due("keep(1)", x.keep(1), 0);
        x.year();
        C.due("back(1)", x.back(1), 0);
    }

    private static void countOfEach() {
        EachBrings x = Checks.village("house 1 0 0 0 4;house 0 1 0 0 2;house 0 0 1 0 3;house 0 0 0 1 9;" + CANT.repeat(2)
                + "pride 9;");
        C.sentence("Promise 26: 0 HOUSES");
        C.due("count(0)", x.count(0), 6);
        for (int n = 0; n <= 6; n++) {
            C.due("of " + n, Checks.village(ANY.repeat(n)).count(0), n);
        }
        C.sentence("Promise 26: 1 HOUSES that brought");
        C.due("count(1)", x.count(1), 0);
        x.brings(3, 3);
        C.due("count(1)", x.count(1), 1);
        x.evening();
        C.due("count(1)", x.count(1), 4);
        C.sentence("Promise 26: 2 spoons left");
        C.due("count(2)", x.count(2), 4 + 2 + 3 + 9 + 36);
        x.eat(0);
        C.due("count(2)", x.count(2), 36 - 2);
        C.due("who brought stays", x.count(1), 4);
        C.sentence("Promise 26: 3 HOUSES told ILL or well");
        C.due("count(3)", x.count(3), 0);
        for (int h = 0; h < 6; h++) {
            x.ill(h, h % 2);
            C.due("count(3)", x.count(3), h + 1);
        }
        C.sentence("Promise 26: 4 the YEAR");
        C.due("count(4)", x.count(4), 0);
        x.year();
        C.due("count(4)", x.count(4), 1);
        C.sentence("Promise 26: 5 bytes of THE TEXT");
        C.due("count(5)", x.count(5), 0);
        Checks.type(x, "?".repeat(300));
        C.due("count(5)", x.count(5), 300);
        x.clear();
        C.due("count(5)", x.count(5), 0);
    }

    private static void countIsBad() {
        C.sentence("Promise 26: BAD");
        EachBrings x = Checks.village(ANY);
        C.due("count(6)", x.count(6), BAD);
        for (int far : FAR) {
            C.due("count(" + far + ")", x.count(far), BAD);
        }
    }
}
