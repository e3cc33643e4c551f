import java.util.ArrayList;
import java.util.List;

/** Promises 1 to 6, sentence by sentence: each edge that the document names of the text and the village. */
public final class TextEdgesTest {
    private static final Checks C = new Checks();
    private static final int BAD = EachBrings.BAD, STATE = EachBrings.STATE, FULL = EachBrings.FULL;
    private static final int NONE = EachBrings.NONE, NO = EachBrings.NO;
    private static final String HOUSE = "house 1 1 1 1 1;";
    private static final String[] WORDS = {"house", "bar", "law", "pride", "memory"};
    private static final int[] FAR = {-1, -2, 7, 8, 9, 10, 31, 32, 33, 64, 256, 1 << 16,
        Integer.MIN_VALUE, Integer.MIN_VALUE + 1, Integer.MAX_VALUE};

    public static void main(String[] args) {
        aNewObject();
        atFirst();
        typeTakesOneToEight();
        typeTakesTheLowestBytes();
        typeTellsHowMany();
        typeIsFull();
        typeIsBadAheadOfFull();
        clearEmpties();
        threeHundredBytes();
        onlyBlanksStandBetween();
        blanksAnywhere();
        itemsAreCounted();
        theTextIsEmptyThen();
        aTextTellsAll();
        readAnew();
        aFaultsAnswer();
        aFaultChangesNothing();
        sixHouses();
        weights();
        eats();
        bars();
        barsToldAgain();
        barredHouses();
        rules();
        rulesOnce();
        noOtherToken();
        wordsThatAreNone();
        numbersAbove99();
        numbersWithAZeroAhead();
        theFirstFault();
        endsTooEarly();
        house();
        houseIsBad();
        told();
        C.end();
    }

    private static void aNewObject() {
        C.sentence("Promise 1: no HOUSES");
        EachBrings x = new EachBrings();
        C.due("count(0)", x.count(0), 0);
        for (int what = 0; what <= 6; what++) {
            C.due("house(0, " + what + ")", x.house(0, what), BAD);
        }
        C.due("brings(0, 0)", x.brings(0, 0), BAD);
        C.due("ate(0, 0)", x.ate(0, 0), BAD);
        C.due("hungry(0)", x.hungry(0), BAD);
        C.due("ill(0, 1)", x.ill(0, 1), BAD);
        C.due("rate(0, 0)", x.rate(0, 0), NO);
        C.due("call(0, 1, 0)", x.call(0, 1, 0), BAD);
        C.sentence("Promise 1: THE LOT is 1");
        C.due("lot(0)", x.lot(0), 1);
        C.due("lot(1)", x.lot(1), 0);
    }

    private static void atFirst() {
        EachBrings x = new EachBrings();
        C.sentence("LAW: (0 at first)");
        C.due("told(0)", x.told(0), 0);
        C.sentence("PRIDE (0 at first)");
        C.due("told(1)", x.told(1), 0);
        C.sentence("MEMORY (1 at first)");
        C.due("told(2)", x.told(2), 1);
        C.sentence("THE TRACE, 0 at first");
        C.due("trace()", x.trace(), 0);
        C.sentence("at first nothing is typed, brought, eaten, told ILL or kept, and no YEAR has gone by");
        for (int what = 0; what <= 5; what++) {
            C.due("count(" + what + ")", x.count(what), 0);
        }
        C.due("back(0)", x.back(0), STATE);
        C.due("back(1)", x.back(1), STATE);
        C.due("evening(), so they have not eaten", x.evening(), 0);
        C.due("eat(1), so they have not eaten", x.eat(1), 0);
    }

    private static void typeTakesOneToEight() {
        C.sentence("Promise 2: n (1 .. 8) bytes .. BAD");
        EachBrings x = new EachBrings();
        C.due("type(0, 0)", x.type(0, 0), BAD);
        C.due("type(0, 9)", x.type(0, 9), BAD);
        for (int n : new int[] {-1, -8, 10, 16, 32, 64, 257, 264, 300, Integer.MIN_VALUE, Integer.MAX_VALUE}) {
            C.due("type(0, " + n + ")", x.type(0, n), BAD);
        }
        C.due("a refused one comes not", x.count(5), 0);
        C.due("type(32, 1)", x.type(32, 1), 1);
        C.due("type(32, 8)", x.type(32, 8), 9);
    }

    /** One sign that begins no token stands among blanks: the fault is its place. */
    private static void typeTakesTheLowestBytes() {
        C.sentence("Promise 2: The lowest n bytes of v, the highest of them first");
        for (int n = 1; n <= 8; n++) {
            for (int place = 0; place < n; place++) {
                String part = " ".repeat(place) + "?" + " ".repeat(n - 1 - place);
                String junk = "!".repeat(8 - n);
                EachBrings x = new EachBrings();
                C.due("type", x.type(Checks.asNumber(junk + part), n), n);
                C.due("village() of \"" + part + "\"", x.village(), -10 - place);
            }
            EachBrings x = new EachBrings();
            x.type(Checks.asNumber("!".repeat(8 - n) + " ".repeat(n)), n);
            C.due("the bytes above are not typed", x.village(), 0);
        }
        EachBrings x = new EachBrings();
        C.due("type(MIN, 8)", x.type(Long.MIN_VALUE | 0x20202020202020L, 8), 8);
        C.due("the highest bit is the first byte's", x.village(), -10);
        C.due("type(MIN, 7)", x.type(Long.MIN_VALUE | 0x20202020202020L, 7), 15);
        C.due("two parts stand behind one another", x.village(), -10);
        x.clear();
        x.type(Long.MIN_VALUE | 0x20202020202020L, 7);
        C.due("the highest bit is above seven bytes", x.village(), 0);
        x.type(Checks.asNumber("law "), 4);
        x.type(Checks.asNumber("2;"), 2);
        C.due("the later call's bytes come behind", x.village(), 1);
        C.due("told(0)", x.told(0), 2);
    }

    private static void typeTellsHowMany() {
        C.sentence("Promise 2: come to THE TEXT: how many it has");
        EachBrings x = new EachBrings();
        int sum = 0;
        for (int n = 1; n <= 8; n++) {
            sum += n;
            C.due("type(0, " + n + ")", x.type(0, n), sum);
            C.due("count(5)", x.count(5), sum);
        }
    }

    private static void typeIsFull() {
        C.sentence("a text (300 bytes at most); Promise 2: FULL");
        for (int n = 1; n <= 8; n++) {
            EachBrings x = new EachBrings();
            Checks.type(x, " ".repeat(300 - n));
            C.due("up to 300 by " + n, x.type(Checks.asNumber(" ".repeat(n)), n), 300);
            C.due("one more", x.type(32, 1), FULL);
            C.due("count(5)", x.count(5), 300);
            x = new EachBrings();
            Checks.type(x, " ".repeat(301 - n));
            C.due("up to 301 by " + n, x.type(Checks.asNumber("?".repeat(n)), n), FULL);
            C.due("count(5)", x.count(5), 301 - n);
            C.due("none of the refused bytes is there", x.village(), 0);
            C.due("there is room again", x.type(32, n), n);
        }
    }

    private static void typeIsBadAheadOfFull() {
        C.sentence("Refused, the first of these: BAD .. FULL");
        EachBrings x = new EachBrings();
        Checks.type(x, " ".repeat(300));
        C.due("type(0, 9)", x.type(0, 9), BAD);
        C.due("type(0, 0)", x.type(0, 0), BAD);
        C.due("type(0, MIN)", x.type(0, Integer.MIN_VALUE), BAD);
        C.due("type(0, MAX)", x.type(0, Integer.MAX_VALUE), BAD);
        C.due("type(0, 8)", x.type(0, 8), FULL);
    }

    private static void clearEmpties() {
        C.sentence("Promise 3: THE TEXT is empty: how many bytes it had");
        EachBrings x = new EachBrings();
        C.due("an empty one", x.clear(), 0);
        x.type(0, 1);
        C.due("of one byte", x.clear(), 1);
        C.due("count(5)", x.count(5), 0);
        C.due("again", x.clear(), 0);
        Checks.type(x, "?".repeat(300));
        C.due("of 300 bytes", x.clear(), 300);
        C.due("count(5)", x.count(5), 0);
        C.due("it is empty", x.village(), 0);
        C.due("there is room again", Checks.type(x, "law 1;"), 6);
        C.due("and no byte of the old", x.village(), 1);
    }

    private static void threeHundredBytes() {
        C.sentence("a text (300 bytes at most): all of 300 are read");
        String houses = "house 9 8 7 6 5;".repeat(6);
        String bars = "bar 5 3;".repeat(25);
        EachBrings x = new EachBrings();
        C.due("type", Checks.type(x, houses + bars + "   ;"), 300);
        C.due("a ; as the last byte", x.village(), -10 - 299);
        x.clear();
        C.due("type", Checks.type(x, houses + bars + "   l"), 300);
        C.due("a word as the last byte", x.village(), -10 - 299);
        x.clear();
        C.due("type", Checks.type(x, houses + bars.substring(8) + "       law 2"), 300);
        C.due("it ends too early, at 300", x.village(), -10 - 300);
        x.clear();
        C.due("type", Checks.type(x, houses + bars.substring(8) + "      law 2;"), 300);
        C.due("it stands", x.village(), 6 + 24 + 1);
        C.due("told(0)", x.told(0), 2);
        C.due("house(5, 5)", x.house(5, 5), 8);
    }

    /** Each of the 256 bytes: alone, between a word and its number, and behind the number. */
    private static void onlyBlanksStandBetween() {
        C.sentence("read byte by byte, blanks (32) between TOKENS; FAULT: of a byte that begins none");
        for (int b = 0; b < 256; b++) {
            char sign = (char) b;
            boolean isBlank = b == 32;
            boolean isLetter = b >= 'a' && b <= 'z';
            boolean isDigit = b >= '0' && b <= '9';
            C.due("byte " + b + " alone", read("" + sign), isBlank ? 0 : -10);
            C.due("\"law\", byte " + b + ", \"1;\"", read("law" + sign + "1;"), isBlank ? 1 : isLetter ? -10 : -13);
            int behind = isBlank ? 1 : isDigit ? -14 : sign == ';' ? -16 : -15;
            C.due("\"law 1\", byte " + b + ", \";\"", read("law 1" + sign + ";"), behind);
        }
    }

    private static void blanksAnywhere() {
        C.sentence("blanks (32) between TOKENS");
        C.due("many", read("   house   1  2 3    4 5   ;   bar  0   3  ;   law  1 ;  "), 3);
        C.due("a text of blanks", read("     "), 0);
        C.due("none where tokens are clear", read("house1 2 3 4 5;bar0 3;law1;pride2;memory3;"), 5);
        C.due("a blank parts a word", read("la w 1;"), -10);
        C.due("a blank parts a number", read("law 1 0;"), -10 - 6);
        C.due("no blank, so one number", read("house 1 1 1 11;"), -10 - 12);
        C.due("no blank, so one word", read("lawpride 1;"), -10);
        C.sentence("what a text with many blanks tells is told");
        EachBrings x = Checks.village("   house   1  2 3    4 5   ;   bar  0   3  ;   law  1 ;  ");
        int[] due = {1, 2, 3, 4, 5, 8, NONE};
        for (int what = 0; what <= 6; what++) {
            C.due("house(0, " + what + ")", x.house(0, what), due[what]);
        }
        C.due("told(0)", x.told(0), 1);
    }

    private static void itemsAreCounted() {
        C.sentence("Promise 4: how many ITEMS");
        C.due("an empty text", read(""), 0);
        for (int many = 1; many <= 6; many++) {
            C.due(many + " houses", read(HOUSE.repeat(many)), many);
        }
        C.due("a bar told again is an item", read(HOUSE + "bar 0 1;".repeat(35)), 36);
        C.due("a law", read("law 0;"), 1);
        C.due("pride", read("pride 0;"), 1);
        C.due("memory", read("memory 1;"), 1);
        C.due("each kind", read("memory 1;law 0;house 0 0 0 0 9;pride 0;bar 0 0;"), 5);
    }

    private static void theTextIsEmptyThen() {
        C.sentence("Promise 4: THE TEXT tells all, and is empty then");
        EachBrings x = new EachBrings();
        Checks.type(x, HOUSE);
        C.due("village()", x.village(), 1);
        C.due("count(5)", x.count(5), 0);
        C.due("clear()", x.clear(), 0);
        C.due("read again, it tells nothing", x.village(), 0);
        C.due("count(0)", x.count(0), 0);
    }

    private static void aTextTellsAll() {
        C.sentence("Promise 4: THE TEXT tells all");
        EachBrings x = Checks.village("house 1 2 3 4 5;" + HOUSE + "bar 0 0;bar 1 3;law 2;pride 9;memory 7;");
        Checks.type(x, "house 0 0 0 9 1;");
        C.due("village()", x.village(), 1);
        C.due("count(0)", x.count(0), 1);
        int[] due = {0, 0, 0, 9, 1, 0, NONE};
        for (int what = 0; what <= 6; what++) {
            C.due("house(0, " + what + ")", x.house(0, what), due[what]);
        }
        C.due("house(1, 0)", x.house(1, 0), BAD);
        C.due("told(0)", x.told(0), 0);
        C.due("told(1)", x.told(1), 0);
        C.due("told(2)", x.told(2), 1);
        C.due("the old house 1 brings nothing", x.evening(), 1);
        C.due("pride is gone: 1 spoon", x.count(2), 1);
        C.due("the old house 1 eats nothing", x.eat(1), 1);
        C.sentence("Promise 4: THE TEXT tells all: of six houses that were nothing stays");
        x = Checks.village("house 9 9 9 9 9;".repeat(6) + "bar 0 0;pride 9;");
        Checks.type(x, "house 0 1 0 0 2;pride 9;");
        C.due("village()", x.village(), 2);
        C.due("evening()", x.evening(), 1);
        C.due("shared()", x.shared(), 2);
        C.due("eat(0)", x.eat(0), 2);
        C.due("count(2)", x.count(2), 9);
        C.due("rests(1, 2, 1)", x.rests(1, 2, 1), 1);
        C.due("odds(0, 1, 0)", x.odds(0, 1, 0), 0);
        C.sentence("Promise 4: THE TEXT tells all: an empty one leaves no house");
        C.due("village()", x.village(), 0);
        C.due("evening()", x.evening(), 0);
        C.due("odds(1, 1, 0)", x.odds(1, 1, 0), 0);
        C.due("rests(1, 2, 1)", x.rests(1, 2, 1), 0);
        C.due("shared()", x.shared(), 0);
        C.due("eat(0)", x.eat(0), 0);
        x = Checks.village("house 9 0 0 0 9;");
        C.due("village()", x.village(), 0);
        C.due("evening()", x.evening(), 0);
        C.due("odds(0, 1, 0)", x.odds(0, 1, 0), 0);
    }

    private static void readAnew() {
        EachBrings x = Checks.village(HOUSE.repeat(2) + "pride 3;");
        x.rate(1, 0);
        x.evening();
        x.keep(0);
        x.eat(0);
        x.ill(0, 1);
        x.keep(1);
        x.year();
        x.brings(0, 2);
        x.lot(-7);
        x.eat(1);
        x.ill(1, 0);
        Checks.type(x, HOUSE.repeat(2) + "pride 3;");
        C.sentence("Read anew: the text stands");
        C.due("village()", x.village(), 3);
        C.sentence("Read anew: YEAR 0");
        C.due("count(4)", x.count(4), 0);
        C.sentence("Read anew: nothing brought");
        C.due("count(1)", x.count(1), 0);
        C.due("count(2)", x.count(2), 0);
        for (int s = 0; s < 4; s++) {
            for (int what = 0; what < 3; what++) {
                C.due("table(" + s + ", " + what + ")", x.table(s, what), 0);
            }
            C.due("ate(0, " + s + ")", x.ate(0, s), 0);
            C.due("ate(1, " + s + ")", x.ate(1, s), 0);
        }
        C.due("house(0, 6)", x.house(0, 6), NONE);
        C.due("shared()", x.shared(), 0);
        C.sentence("Read anew: nobody has eaten, nobody is told ILL or well");
        C.due("count(3)", x.count(3), 0);
        C.due("suspects()", x.suspects(), 15);
        C.due("hungry(0)", x.hungry(0), STATE);
        C.due("ill(0, 1)", x.ill(0, 1), STATE);
        C.sentence("Read anew: IMAGES are gone");
        C.due("back(0)", x.back(0), STATE);
        C.due("back(1)", x.back(1), STATE);
        C.sentence("Read anew: THE LOT stays");
        C.due("lot(-7)", x.lot(-7), -7);
        C.sentence("THE TRACE is added to by rate() alone");
        C.due("trace()", x.trace(), 11);
        C.sentence("Read anew: WEIGHTS are as told, not as years made them");
        for (int s = 0; s < 4; s++) {
            C.due("house(0, " + s + ")", x.house(0, s), 1);
        }
        C.sentence("Read anew, by an empty text too");
        x.keep(0);
        x.year();
        C.due("village()", x.village(), 0);
        C.due("count(4)", x.count(4), 0);
        C.due("back(0)", x.back(0), STATE);
    }

    private static void aFaultsAnswer() {
        C.sentence("Promise 4: -10 less FAULT");
        for (int place = 0; place < 300; place += 23) {
            C.due("a fault at " + place, read(" ".repeat(place) + "?"), -10 - place);
            C.due("too early at " + (place + 1), read(" ".repeat(Math.max(0, place - 2)) + "law"),
                    -10 - Math.max(0, place - 2) - 3);
        }
        C.due("a fault at 299", read(" ".repeat(299) + "?"), -309);
    }

    private static void aFaultChangesNothing() {
        C.sentence("Promise 4: -10 less FAULT: nothing changes");
        String[] faulty = {"?", "law 0;pride 0;memory 0;house 9 9 9 9 9;bar 0 0;?", "house 9 9 9 9 9;house 9",
            HOUSE.repeat(7), "law 0;law 0;", "bar 0 1;", HOUSE + "bar 0 3;bar 1 0;"};
        for (String text : faulty) {
            EachBrings x = Checks.village("house 1 2 3 4 5;bar 0 2;law 2;pride 3;memory 4;");
            x.lot(99);
            x.year();
            x.brings(0, 1);
            x.keep(1);
            x.eat(0);
            x.ill(0, 1);
            x.rate(0, 0);
            int typed = Checks.type(x, text);
            C.holds("there is a fault in " + text, x.village() <= -10);
            C.due("count(5)", x.count(5), typed);
            int[] counts = {1, 1, 3, 1, 1};
            for (int what = 0; what < 5; what++) {
                C.due("count(" + what + ")", x.count(what), counts[what]);
            }
            int[] house = {5, 6, 7, 8, 5, 4, 1};
            for (int what = 0; what <= 6; what++) {
                C.due("house(0, " + what + ")", x.house(0, what), house[what]);
            }
            C.due("told(0)", x.told(0), 2);
            C.due("told(1)", x.told(1), 3);
            C.due("told(2)", x.told(2), 4);
            C.due("ate(0, 1)", x.ate(0, 1), 5);
            C.due("hungry(0)", x.hungry(0), 0);
            C.due("suspects()", x.suspects(), 2);
            C.due("trace()", x.trace(), 1);
            C.due("lot(1)", x.lot(1), 99);
            C.due("back(0)", x.back(0), STATE);
            C.due("back(1)", x.back(1), 1);
            C.due("table(1, 1)", x.table(1, 1), 8);
            C.due("the same fault again", x.village() <= -10 ? 1 : 0, 1);
            C.due("clear()", x.clear(), typed);
        }
    }

    private static void sixHouses() {
        C.sentence("HOUSES 0 .. (6 at most); FAULT: (a seventh house)");
        C.due("six", read(HOUSE.repeat(6)), 6);
        C.due("a seventh", read(HOUSE.repeat(7)), -10 - 96);
        C.due("a seventh behind others", read(HOUSE.repeat(6) + "law 1; house 1 1 1 1 1;"), -10 - 103);
        C.due("a seventh that ends too early", read(HOUSE.repeat(6) + "house"), -10 - 96);
        EachBrings x = new EachBrings();
        StringBuilder text = new StringBuilder();
        for (int h = 0; h < 6; h++) {
            text.append("house ").append(h).append(" 0 0 ").append(9 - h).append(" ").append(h + 1).append(";");
        }
        Checks.type(x, text.toString());
        C.due("village()", x.village(), 6);
        C.due("count(0)", x.count(0), 6);
        for (int h = 0; h < 6; h++) {
            C.due("house(" + h + ", 0)", x.house(h, 0), h);
            C.due("house(" + h + ", 3)", x.house(h, 3), 9 - h);
            C.due("house(" + h + ", 4)", x.house(h, 4), h + 1);
        }
        C.due("house(6, 0)", x.house(6, 0), BAD);
        C.sentence("after a seventh house was refused six can be told again");
        Checks.type(x, HOUSE.repeat(7));
        C.due("village()", x.village(), -106);
        x.clear();
        Checks.type(x, HOUSE.repeat(6));
        C.due("village()", x.village(), 6);
    }

    private static void weights() {
        C.sentence("of each SORT a WEIGHT (0 .. 9); a NUMBER beyond what it may be");
        for (int s = 0; s < 4; s++) {
            for (int n = 0; n <= 99; n++) {
                String text = "house " + "7 ".repeat(s) + n + " 7".repeat(3 - s) + " 5;";
                EachBrings x = new EachBrings();
                Checks.type(x, text);
                C.due(text, x.village(), n <= 9 ? 1 : -10 - 6 - 2 * s);
                C.due(text + " house(0, " + s + ")", x.house(0, s), n <= 9 ? n : BAD);
            }
        }
    }

    private static void eats() {
        C.sentence("EATS so many spoons (1 .. 9); a NUMBER beyond what it may be");
        for (int n = 0; n <= 99; n++) {
            EachBrings x = new EachBrings();
            Checks.type(x, "house 1 2 3 4 " + n + ";");
            C.due("eats " + n, x.village(), n >= 1 && n <= 9 ? 1 : -10 - 14);
            C.due("eats " + n + ": house(0, 4)", x.house(0, 4), n >= 1 && n <= 9 ? n : BAD);
        }
    }

    private static void bars() {
        C.sentence("bar H S; FAULT: (an H that was not told)");
        for (int houses = 0; houses <= 6; houses++) {
            for (int h = 0; h <= 99; h++) {
                String text = HOUSE.repeat(houses) + "bar " + h + " 3;";
                C.due(text, read(text), h < houses ? houses + 1 : -10 - 16 * houses - 4);
            }
        }
        C.due("an H that is told later only", read("bar 0 0;" + HOUSE), -14);
        C.due("an H that is told later only", read(HOUSE + "bar 1 0;" + HOUSE), -10 - 20);
        C.sentence("BARRED from some SORTS; a NUMBER beyond what it may be");
        for (int s = 0; s <= 99; s++) {
            EachBrings x = new EachBrings();
            Checks.type(x, HOUSE + "bar 0 " + s + ";");
            C.due("bar 0 " + s, x.village(), s < 4 ? 2 : -10 - 22);
            C.due("house(0, 5)", x.house(0, 5), s < 4 ? 1 << s : BAD);
        }
    }

    private static void barsToldAgain() {
        C.sentence("bar H S (told again: well)");
        EachBrings x = new EachBrings();
        Checks.type(x, HOUSE + "bar 0 2;bar 0 2;bar 0 2;");
        C.due("village()", x.village(), 4);
        C.due("house(0, 5)", x.house(0, 5), 4);
        Checks.type(x, HOUSE + "bar 0 2;bar 0 0;bar 0 2;bar 0 0;");
        C.due("village()", x.village(), 5);
        C.due("house(0, 5)", x.house(0, 5), 5);
    }

    private static void barredHouses() {
        C.sentence("Promise 5: 5 from what it is BARRED (bits)");
        for (int bits = 0; bits < 16; bits++) {
            StringBuilder text = new StringBuilder(HOUSE.repeat(3));
            for (int s = 3; s >= 0; s--) {
                text.append((bits >> s & 1) == 1 ? "bar 1 " + s + ";" : "");
            }
            EachBrings x = Checks.village(text.toString());
            C.due(text + " house(1, 5)", x.house(1, 5), bits);
            C.due("another house is not barred", x.house(0, 5) + x.house(2, 5), 0);
        }
        EachBrings x = Checks.village(HOUSE.repeat(6) + "bar 5 3;bar 0 0;");
        C.due("house(5, 5)", x.house(5, 5), 8);
        C.due("house(0, 5)", x.house(0, 5), 1);
    }

    private static void rules() {
        String[] words = {"law", "pride", "memory"};
        int[] most = {2, 9, 9};
        for (int what = 0; what < 3; what++) {
            C.sentence(words[what] + " 0 .. " + most[what] + "; a NUMBER beyond what it may be");
            for (int n = 0; n <= 99; n++) {
                EachBrings x = Checks.village("law 1;pride 8;memory 8;");
                int place = Checks.type(x, words[what] + " ");
                Checks.type(x, n + ";");
                C.due(words[what] + " " + n, x.village(), n <= most[what] ? 1 : -10 - place);
                C.due("told(" + what + ")", x.told(what), n <= most[what] ? n : what == 0 ? 1 : 8);
            }
        }
    }

    private static void rulesOnce() {
        C.sentence("law K, pride N, memory N (once each at most); what is told again that may not");
        for (String word : new String[] {"law", "pride", "memory"}) {
            String item = word + " 1;";
            C.due(item + item, read(item + item), -10 - item.length());
            C.due("with another number", read(item + word + " 2;"), -10 - item.length());
            C.due("with a house between", read(item + HOUSE + item), -10 - item.length() - 16);
            C.due("a word that ends the text", read(item + word), -10 - item.length());
        }
        C.due("each once", read("law 1;pride 1;memory 1;"), 3);
        C.due("each once, the other way", read("memory 1;pride 1;law 1;"), 3);
        C.sentence("what a text told may be told by the next");
        EachBrings x = Checks.village("law 1;pride 1;memory 2;");
        Checks.type(x, "law 2;pride 2;memory 3;");
        C.due("village()", x.village(), 3);
        C.due("told(0)", x.told(0), 2);
        C.due("told(1)", x.told(1), 2);
        C.due("told(2)", x.told(2), 3);
        Checks.type(x, "law 2;law 2;");
        C.due("a faulty one", x.village(), -16);
        x.clear();
        Checks.type(x, "law 1;");
        C.due("does not count", x.village(), 1);
    }

    /** In each place of each item, each token that can't stand there. */
    private static void noOtherToken() {
        C.sentence("FAULT: the place of the first byte of the first TOKEN that can't stand there");
        String[][] items = {{"house", "1", "2", "3", "4", "5", ";"}, {"bar", "0", "1", ";"}, {"law", "1", ";"},
            {"pride", "1", ";"}, {"memory", "1", ";"}};
        String[] others = {"house", "bar", "law", "pride", "memory", "1", ";", "x", "?", "100", "01"};
        for (String[] item : items) {
            for (int at = 0; at < item.length; at++) {
                StringBuilder ahead = new StringBuilder(HOUSE);
                for (int i = 0; i < at; i++) {
                    ahead.append(item[i]).append(' ');
                }
                for (String other : others) {
                    boolean stands = at == 0 ? List.of(WORDS).contains(other)
                            : item[at].equals(";") ? other.equals(";") : other.equals("1") && !item[0].equals("bar");
                    if (!stands && !(item[0].equals("bar") && other.equals("1") && at == 2)) {
                        C.due(ahead + other, read(ahead + other + " ;"), -10 - ahead.length());
                    }
                }
                C.due(ahead + "and no more", read(ahead.toString()), at == 0 ? 1 : -10 - ahead.length());
            }
        }
    }

    private static void wordsThatAreNone() {
        C.sentence("a word that is none of these, that TOKEN's");
        List<String> wrong = new ArrayList<>(List.of("x", "z", "a", "houses", "ho", "barr", "ba", "laws", "la", "l",
                "prides", "prid", "memor", "memorys", "housebar", "zhouse"));
        for (String word : WORDS) {
            for (int i = 0; i < word.length(); i++) {
                char other = word.charAt(i) == 'a' ? 'b' : (char) (word.charAt(i) - 1);
                wrong.add(word.substring(0, i) + other + word.substring(i + 1));
            }
        }
        for (String word : wrong) {
            C.due(word, read(word + " 1;"), -10);
            C.due("law 1; " + word, read("law 1; " + word + " 1;"), -10 - 7);
            C.due("law " + word, read("law " + word + ";"), -10 - 4);
            C.due(word + ", which ends the text", read("  " + word), -10 - 2);
        }
        C.due("a word of 300 letters", read("house".repeat(60)), -10);
        C.due("great letters are none", read("LAW 1;"), -10);
        C.due("a great letter ends a word", read("laW 1;"), -10);
        C.due("a great letter behind a word", read("lawX 1;"), -10 - 3);
    }

    private static void numbersAbove99() {
        C.sentence("a NUMBER above 99, that TOKEN's");
        for (String number : new String[] {"100", "101", "110", "199", "256", "257", "999", "1000", "65537",
            "2147483648", "4294967296", "4294967297", "18446744073709551616", "18446744073709551617",
            "1".repeat(200)}) {
            C.due("law " + number, read("law " + number + ";"), -10 - 4);
            C.due("where no number stands", read(" " + number + ";"), -10 - 1);
            C.due("as a weight", read("house 1 1 " + number + " 1 1;"), -10 - 10);
            C.due("as what is eaten", read("house 1 1 1 1 " + number + ";"), -10 - 14);
            C.due("as a house", read(HOUSE + "bar " + number + " 0;"), -10 - 20);
        }
    }

    private static void numbersWithAZeroAhead() {
        C.sentence("a NUMBER with a 0 ahead of others, that TOKEN's");
        for (String number : new String[] {"00", "01", "02", "09", "000", "001", "010", "0100"}) {
            C.due("law " + number, read("law " + number + ";"), -10 - 4);
            C.due("as a weight", read("house 1 1 " + number + " 1 1;"), -10 - 10);
            C.due("as what is eaten", read("house 1 1 1 1 " + number + ";"), -10 - 14);
            C.due("as a house", read(HOUSE + "bar " + number + " 0;"), -10 - 20);
            C.due("as a sort", read(HOUSE + "bar 0 " + number + ";"), -10 - 22);
        }
        C.due("a 0 alone is well", read("house 0 0 0 0 1;bar 0 0;law 0;pride 0;memory 0;"), 5);
    }

    private static void theFirstFault() {
        C.sentence("FAULT: of the first TOKEN that can't stand there");
        C.due("law 3, pride 10", read("law 3;pride 10;"), -14);
        C.due("a word none of these ahead of law 3", read("x;law 3;"), -10);
        C.due("law 3 ahead of a word none of these", read("law 3;x"), -14);
        C.due("bar of no house ahead of a bad sort", read("bar 0 9;"), -14);
        C.due("weights from the left", read("house 1 10 10 10 0;"), -10 - 8);
        C.due("a fault ahead of the early end", read("law 3"), -14);
        C.due("two ;", read("law 1;;;"), -16);
    }

    /** Each beginning of a text: it stands, ends too early, or ends in half a word. */
    private static void endsTooEarly() {
        C.sentence("FAULT: the text's length, if it ends too early");
        String[] tokens = {"house", " ", "1", " ", "2", " ", "3", " ", "4", " ", "5", " ", ";", " ",
            "bar", " ", "0", " ", "1", ";", "law", " ", "2", ";", "pride", " ", "9", ";", "memory", "  ", "0", ";"};
        StringBuilder text = new StringBuilder();
        int items = 0;
        boolean open = false;
        C.due("nothing", read(""), 0);
        for (String token : tokens) {
            int place = text.length();
            for (int i = 0; i < token.length() - 1; i++) {
                text.append(token.charAt(i));
                int whole = open ? -10 - text.length() : items;
                C.due(text.toString(), read(text.toString()), token.isBlank() ? whole : -10 - place);
            }
            text.append(token.charAt(token.length() - 1));
            open = token.equals(";") ? false : open || !token.isBlank();
            items += token.equals(";") ? 1 : 0;
            C.due(text.toString(), read(text.toString()), open ? -10 - text.length() : items);
        }
    }

    private static void house() {
        C.sentence("Promise 5: 0 .. 3 its WEIGHTS, 4 EATS, 5 from what it is BARRED, 6 what it brought (NONE)");
        EachBrings x = Checks.village("house 0 9 1 5 1;house 9 0 0 2 9;bar 0 0;bar 0 1;bar 0 2;bar 0 3;memory 3;");
        int[][] due = {{0, 9, 1, 5, 1, 15, NONE}, {9, 0, 0, 2, 9, 0, NONE}};
        for (int h = 0; h < 2; h++) {
            for (int what = 0; what <= 6; what++) {
                C.due("house(" + h + ", " + what + ")", x.house(h, what), due[h][what]);
            }
        }
        x.brings(0, 3);
        x.brings(1, 0);
        C.due("house(0, 6)", x.house(0, 6), 3);
        C.due("house(1, 6)", x.house(1, 6), 0);
        x.eat(0);
        C.due("what was eaten was brought", x.house(0, 6), 3);
        x.year();
        C.due("house(0, 6)", x.house(0, 6), NONE);
        int[][] later = {{0, 9, 4, 5, 1, 15, NONE}, {9, 0, 0, 2, 9, 0, NONE}};
        for (int h = 0; h < 2; h++) {
            for (int what = 0; what <= 6; what++) {
                C.due("a year later house(" + h + ", " + what + ")", x.house(h, what), later[h][what]);
            }
        }
    }

    private static void houseIsBad() {
        C.sentence("Promise 5: BAD");
        for (int houses = 0; houses <= 6; houses++) {
            EachBrings x = Checks.village(HOUSE.repeat(houses));
            for (int what = 0; what <= 6; what++) {
                C.due("house(-1, " + what + ")", x.house(-1, what), BAD);
                C.due("of " + houses + ": house(" + houses + ", " + what + ")", x.house(houses, what), BAD);
                C.holds("the last house is", houses == 0 || x.house(houses - 1, what) != BAD);
            }
            for (int far : FAR) {
                C.due("house(" + far + ", 0)", x.house(far, 0), BAD);
                C.due("house(0, " + far + ")", x.house(0, far), BAD);
            }
        }
    }

    private static void told() {
        C.sentence("Promise 6: 0 LAW, 1 PRIDE, 2 MEMORY. BAD");
        EachBrings x = Checks.village("law 2;pride 7;memory 5;");
        C.due("told(0)", x.told(0), 2);
        C.due("told(1)", x.told(1), 7);
        C.due("told(2)", x.told(2), 5);
        C.due("told(3)", x.told(3), BAD);
        for (int far : FAR) {
            C.due("told(" + far + ")", x.told(far), BAD);
        }
    }

    private static int read(String text) {
        EachBrings x = new EachBrings();
        Checks.type(x, text);
        return x.village();
    }
}
