/** Promises 1 to 6: a new object, the text, the village that it tells. */
public final class VillageTest {
    private static final Checks C = new Checks();
    private static final String SIX = "house 1 1 1 1 1;".repeat(6);

    public static void main(String[] args) {
        aNewObject();
        typing();
        fullText();
        clearing();
        villageTold();
        readAnew();
        nothingOfTheOldVillage();
        spacing();
        faultsOfOrder();
        faultsOfTokens();
        faultsOfNumbers();
        faultsOfTellingAgain();
        aFaultChangesNothing();
        houses();
        rules();
        C.end();
    }

    private static void aNewObject() {
        EachBrings x = new EachBrings();
        for (int what = 0; what <= 5; what++) {
            C.due("new: count(" + what + ")", x.count(what), 0);
        }
        C.due("new: house(0, 0)", x.house(0, 0), EachBrings.BAD);
        C.due("new: told(0)", x.told(0), 0);
        C.due("new: told(1)", x.told(1), 0);
        C.due("new: told(2)", x.told(2), 1);
        C.due("new: trace()", x.trace(), 0);
        C.due("new: back(0)", x.back(0), EachBrings.STATE);
        C.due("new: back(1)", x.back(1), EachBrings.STATE);
        C.due("new: suspects()", x.suspects(), 15);
        C.due("new: shared()", x.shared(), 0);
        C.due("new: table(3, 1)", x.table(3, 1), 0);
        C.due("new: lot(5)", x.lot(5), 1);
        C.due("new: lot(1)", x.lot(1), 5);
    }

    private static void typing() {
        EachBrings x = new EachBrings();
        C.due("type(0, 0)", x.type(0, 0), EachBrings.BAD);
        C.due("type(0, 9)", x.type(0, 9), EachBrings.BAD);
        C.due("type(0, -1)", x.type(0, -1), EachBrings.BAD);
        C.due("type(0, MIN)", x.type(0, Integer.MIN_VALUE), EachBrings.BAD);
        C.due("type(0, MAX)", x.type(0, Integer.MAX_VALUE), EachBrings.BAD);
        C.due("count(5)", x.count(5), 0);
        // Bytes above the lowest n are no part of the text.
        C.due("type(..law , 4)", x.type(Checks.asNumber("zzzzlaw "), 4), 4);
        C.due("type(..2;, 2)", x.type(-1L << 16 | Checks.asNumber("2;"), 2), 6);
        C.due("village()", x.village(), 1);
        C.due("told(0)", x.told(0), 2);
        // A byte above 127 begins no token.
        C.due("type(-1, 8)", x.type(-1L, 8), 8);
        C.due("village()", x.village(), -10);
    }

    private static void fullText() {
        EachBrings x = new EachBrings();
        for (int i = 1; i <= 37; i++) {
            C.due("type, the " + i + "th", x.type(Checks.asNumber("        "), 8), 8L * i);
        }
        C.due("type beyond 300", x.type(Checks.asNumber("     "), 5), EachBrings.FULL);
        C.due("type beyond 300, n bad", x.type(0, 9), EachBrings.BAD);
        C.due("count(5)", x.count(5), 296);
        C.due("type up to 300", x.type(Checks.asNumber("    "), 4), 300);
        C.due("type at 300", x.type(32, 1), EachBrings.FULL);
        C.due("village of blanks", x.village(), 0);
        C.due("count(5)", x.count(5), 0);
        EachBrings y = new EachBrings();
        Checks.type(y, "bar 0 0;".repeat(37) + ";;;;");
        C.due("village of 300 bytes", y.village(), -14);
        EachBrings z = new EachBrings();
        Checks.type(z, " ".repeat(284) + "house 9 9 9 9 9;");
        C.due("village of 300 bytes", z.village(), 1);
        C.due("house(0, 4)", z.house(0, 4), 9);
    }

    private static void clearing() {
        EachBrings x = new EachBrings();
        C.due("clear()", x.clear(), 0);
        Checks.type(x, "law");
        C.due("clear()", x.clear(), 3);
        C.due("clear()", x.clear(), 0);
        C.due("type", Checks.type(x, "law 1;"), 6);
        C.due("village()", x.village(), 1);
        C.due("told(0)", x.told(0), 1);
    }

    private static void villageTold() {
        EachBrings x = new EachBrings();
        Checks.type(x, "house 1 0 9 3 7;memory 9;bar 0 3;bar 0 3;bar 0 0;house 0 0 0 0 1;pride 9;law 2;");
        C.due("village()", x.village(), 8);
        C.due("count(0)", x.count(0), 2);
        int[] first = {1, 0, 9, 3, 7, 9, EachBrings.NONE};
        int[] second = {0, 0, 0, 0, 1, 0, EachBrings.NONE};
        for (int what = 0; what <= 6; what++) {
            C.due("house(0, " + what + ")", x.house(0, what), first[what]);
            C.due("house(1, " + what + ")", x.house(1, what), second[what]);
        }
        C.due("told(0)", x.told(0), 2);
        C.due("told(1)", x.told(1), 9);
        C.due("told(2)", x.told(2), 9);
        C.due("count(5)", x.count(5), 0);
        // A text tells all: what it does not tell is as at first.
        C.due("village()", x.village(), 0);
        C.due("count(0)", x.count(0), 0);
        C.due("told(0)", x.told(0), 0);
        C.due("told(1)", x.told(1), 0);
        C.due("told(2)", x.told(2), 1);
    }

    private static void readAnew() {
        EachBrings x = Checks.village("house 1 1 0 0 5;house 2 2 0 0 6;bar 0 0;law 1;");
        x.lot(77);
        x.evening();
        x.keep(0);
        x.eat(0);
        x.ill(0, 1);
        x.rate(0, 0);
        x.keep(1);
        x.year();
        x.evening();
        x.eat(0);
        x.ill(0, 0);
        Checks.type(x, "house 1 1 0 0 5;house 2 2 0 0 6;");
        C.due("village()", x.village(), 2);
        C.due("count(1)", x.count(1), 0);
        C.due("count(2)", x.count(2), 0);
        C.due("count(3)", x.count(3), 0);
        C.due("count(4)", x.count(4), 0);
        C.due("back(0)", x.back(0), EachBrings.STATE);
        C.due("back(1)", x.back(1), EachBrings.STATE);
        C.due("hungry(0)", x.hungry(0), EachBrings.STATE);
        C.due("house(0, 5)", x.house(0, 5), 0);
        C.due("house(0, 6)", x.house(0, 6), EachBrings.NONE);
        C.due("ate(0, 1)", x.ate(0, 1), 0);
        C.due("table(0, 0)", x.table(0, 0), 0);
        C.due("trace()", x.trace(), 1);
        C.due("lot(1)", x.lot(1), 77);
    }

    private static void nothingOfTheOldVillage() {
        EachBrings x = Checks.village("house 9 9 9 9 9;".repeat(6) + "bar 0 0;pride 9;");
        x.evening();
        C.due("village()", x.village(), 0);
        C.due("table(0, 1)", x.table(0, 1), 0);
        C.due("evening()", x.evening(), 0);
        C.due("shared()", x.shared(), 0);
        C.due("all(1)", x.all(1), 1);
        C.due("rests(1, 1, 0)", x.rests(1, 1, 0), 1);
        C.due("eat(0)", x.eat(0), 0);
    }

    private static void spacing() {
        C.due("no blanks", read("house1 2 3 4 5;bar0 1;law1;pride2;memory3;"), 5);
        C.due("blanks all over", read("   house  1   2 3 4   5  ;  bar 0   0 ;  "), 2);
        C.due("only blanks", read("   "), 0);
        C.due("no text", read(""), 0);
        fault("a tab", "law\t1;", 3);
        fault("a line's end", "law 1;\n", 6);
        fault("a great letter", "Law 1;", 0);
        fault("a great letter inside", "laW 1;", 0);
    }

    private static void faultsOfOrder() {
        fault("a lone ;", ";", 0);
        fault("a lone number", "1;", 0);
        fault("two ;", "law 1;;", 6);
        fault("; ahead of all", " ;law 1;", 1);
        fault("too few numbers", "house 1 2 3 4;", 13);
        fault("too many numbers", "house 1 2 3 4 5 6;", 16);
        fault("a word for a number", "house 1 bar 3 4 5;", 8);
        fault("a word for ;", "law 1 law 2;", 6);
        fault("law without number", "law;", 3);
        fault("law with two", "law 1 1;", 6);
        fault("bar with three", "house 1 1 1 1 1;bar 0 0 0;", 24);
        fault("bar with one", "house 1 1 1 1 1;bar 0;", 21);
        fault("ends in a house", "house 1 2 3 4", 13);
        fault("ends ahead of ;", "house 1 2 3 4 5", 15);
        fault("ends behind blanks", "house 1 2   ", 12);
        fault("ends behind a word", "law", 3);
        fault("ends in the second item", "law 1;pride", 11);
    }

    private static void faultsOfTokens() {
        fault("no such word", "dog 1;", 0);
        fault("a word's beginning", "law 1; hous 1 1 1 1 1;", 7);
        fault("a word and more", "laws 1;", 0);
        fault("another first letter", "paw 1;", 0);
        fault("another last letter", "lax 1;", 0);
        fault("a long word", "memorymemorymemory 1;", 0);
        fault("a half word at the end", "law 1;pri", 6);
        fault("a word none of these in an item", "law x;", 4);
        fault("a word behind a number", "law 1a;", 5);
        fault("a byte that begins none", "law 1;?", 6);
        fault("a byte that begins none, in an item", "law -1;", 4);
        fault("a byte that begins none, for ;", "law 1,", 5);
        fault("a zero byte", "\0", 0);
        fault("a byte of 255", "law 1;" + (char) 255, 6);
        fault("`", "`", 0);
        fault("{", "{", 0);
        fault("/", "law /;", 4);
        fault(":", "law :;", 4);
    }

    private static void faultsOfNumbers() {
        fault("weight 10", "house 1 10 1 1 1;", 8);
        fault("weight 100", "house 1 1 100 1 1;", 10);
        fault("weight 00", "house 1 1 1 00 1;", 12);
        fault("weight 01", "house 01 1 1 1 1;", 6);
        fault("eats 0", "house 1 1 1 1 0;", 14);
        fault("eats 10", "house 1 1 1 1 10;", 14);
        fault("law 3", "law 3;", 4);
        fault("pride 10", "pride 10;", 6);
        fault("memory 10", "memory 10;", 7);
        fault("a number that would wrap to 1", "law 4294967297;", 4);
        fault("a number of many digits", "law 18446744073709551617;", 4);
        fault("bar of no house", "bar 0 0;house 1 1 1 1 1;", 4);
        fault("bar of the next house", "house 1 1 1 1 1;bar 1 0;", 20);
        fault("bar of sort 4", "house 1 1 1 1 1;bar 0 4;", 22);
        fault("bar of house 6", SIX + "bar 6 0;", 100);
        C.due("bar of house 5", read(SIX + "bar 5 3;"), 7);
        C.due("edges", read("house 0 9 0 9 9;law 0;pride 0;memory 0;"), 4);
        C.due("a 0", read("house 0 0 0 0 1;"), 1);
    }

    private static void faultsOfTellingAgain() {
        fault("a seventh house", SIX + "house 1 1 1 1 1;", 96);
        fault("law again", "law 1; law 1;", 7);
        fault("pride again", "pride 0;law 1;pride 0;", 14);
        fault("memory again", "memory 1;memory 1;", 9);
        C.due("six houses", read(SIX), 6);
        C.due("bar again", read("house 1 1 1 1 1;bar 0 0;bar 0 0;"), 3);
    }

    private static void aFaultChangesNothing() {
        EachBrings x = Checks.village("house 1 2 3 4 5;bar 0 2;law 2;pride 3;memory 4;");
        x.brings(0, 1);
        x.keep(1);
        Checks.type(x, "house 9 9 9 9 9;house 8 8 8 8 8;bar 0 1;law 0;pride 0;memory 0;x");
        C.due("village()", x.village(), -10 - 63);
        C.due("count(5)", x.count(5), 64);
        C.due("count(0)", x.count(0), 1);
        int[] stays = {1, 2, 3, 4, 5, 4, 1};
        for (int what = 0; what <= 6; what++) {
            C.due("house(0, " + what + ")", x.house(0, what), stays[what]);
        }
        C.due("told(0)", x.told(0), 2);
        C.due("told(1)", x.told(1), 3);
        C.due("told(2)", x.told(2), 4);
        C.due("table(1, 1)", x.table(1, 1), 8);
        C.due("back(1)", x.back(1), 0);
        // What a faulty text told is not told again by the next.
        C.due("clear()", x.clear(), 64);
        Checks.type(x, "law 1;house 1 1 1 1 1;");
        C.due("village()", x.village(), 2);
        C.due("count(0)", x.count(0), 1);
        C.due("house(0, 5)", x.house(0, 5), 0);
        C.due("told(1)", x.told(1), 0);
        C.due("told(2)", x.told(2), 1);
    }

    private static void houses() {
        EachBrings x = Checks.village("house 1 2 3 4 5;");
        C.due("house(-1, 0)", x.house(-1, 0), EachBrings.BAD);
        C.due("house(1, 0)", x.house(1, 0), EachBrings.BAD);
        C.due("house(MIN, 0)", x.house(Integer.MIN_VALUE, 0), EachBrings.BAD);
        C.due("house(MAX, 0)", x.house(Integer.MAX_VALUE, 0), EachBrings.BAD);
        C.due("house(0, -1)", x.house(0, -1), EachBrings.BAD);
        C.due("house(0, 7)", x.house(0, 7), EachBrings.BAD);
        C.due("house(0, 3)", x.house(0, 3), 4);
        x.brings(0, 0);
        C.due("house(0, 6)", x.house(0, 6), 0);
    }

    private static void rules() {
        EachBrings x = Checks.village("memory 0;pride 7;law 1;");
        C.due("told(0)", x.told(0), 1);
        C.due("told(1)", x.told(1), 7);
        C.due("told(2)", x.told(2), 0);
        C.due("told(-1)", x.told(-1), EachBrings.BAD);
        C.due("told(3)", x.told(3), EachBrings.BAD);
    }

    private static int read(String text) {
        EachBrings x = new EachBrings();
        Checks.type(x, text);
        return x.village();
    }

    private static void fault(String what, String text, int place) {
        C.due(what + ": " + text, read(text), -10 - place);
    }
}
