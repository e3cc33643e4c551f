import java.util.ArrayList;
import java.util.List;
import java.util.function.Consumer;
import java.util.function.ToLongFunction;

/**
 * "Refused, and nothing changes": of two objects with the same past one is asked for what is refused;
 * then both answer alike, whatever is asked and done. So it is with questions that change nothing.
 */
public final class RefusedTest {
    private static final Checks C = new Checks();
    private static final int BAD = EachBrings.BAD, STATE = EachBrings.STATE, FULL = EachBrings.FULL;
    private static final int NO = EachBrings.NO;

    /** A past of an object; whether all have eaten in it, a text is full, and which images were kept. */
    private record Past(String name, boolean eaten, boolean full, int kept, Consumer<EachBrings> calls) {
        EachBrings make() {
            EachBrings x = new EachBrings();
            calls.accept(x);
            return x;
        }
    }

    /** A call by its name, and what is due. */
    private record Ask(String name, long due, ToLongFunction<EachBrings> call) {
    }

    /** What may come behind a call: each shows something of the object that others hide. */
    private static final List<Consumer<EachBrings>> BEHIND = List.of(
            x -> { },
            x -> x.back(0),
            x -> x.back(1),
            x -> x.village(),
            x -> {
                x.evening();
                x.eat(1);
            },
            x -> {
                x.year();
                x.evening();
            },
            x -> {
                Checks.type(x, ";law 1;");
                x.village();
            },
            x -> {
                x.clear();
                Checks.type(x, "house 2 3 4 5 6;");
                x.village();
                x.back(0);
            });

    public static void main(String[] args) {
        for (Past past : pasts()) {
            for (Ask ask : refused(past)) {
                changesNothing(past, ask, true);
            }
            for (Ask ask : questions()) {
                changesNothing(past, ask, false);
            }
        }
        fiveHundredAndTwelve();
        C.end();
    }

    private static List<Past> pasts() {
        List<Past> pasts = new ArrayList<>();
        pasts.add(new Past("a new object", false, false, 0, x -> { }));
        pasts.add(new Past("a village", false, false, 0, RefusedTest::village));
        pasts.add(new Past("some have brought", false, false, 1, x -> {
            village(x);
            x.keep(0);
            x.brings(0, 0);
            x.brings(1, 1);
            x.lot(12);
        }));
        pasts.add(new Past("all have brought, a text is begun", false, false, 2, x -> {
            village(x);
            x.year();
            x.evening();
            x.keep(1);
            Checks.type(x, "law 2;pride 1");
        }));
        pasts.add(new Past("all have eaten", true, false, 3, x -> {
            village(x);
            x.brings(0, 0);
            x.keep(0);
            x.evening();
            x.eat(0);
            x.keep(1);
            x.rate(3, 0);
        }));
        pasts.add(new Past("some are ill, the text is full", true, true, 3, x -> {
            village(x);
            x.year();
            x.keep(1);
            x.evening();
            x.eat(1);
            x.ill(0, 1);
            x.ill(1, 0);
            x.keep(0);
            x.ill(1, 1);
            Checks.type(x, "house 9 9 9 9 9;law 1;" + "bar 0 0;".repeat(34) + "  bar ");
        }));
        return pasts;
    }

    private static void village(EachBrings x) {
        Checks.type(x, "house 1 0 2 3 4;house 2 5 0 1 9;house 0 0 0 0 3;bar 0 1;bar 2 2;pride 2;memory 3;");
        x.village();
    }

    private static void add(List<Ask> asks, String name, long due, ToLongFunction<EachBrings> call) {
        asks.add(new Ask(name, due, call));
    }

    private static List<Ask> refused(Past past) {
        List<Ask> asks = new ArrayList<>();
        for (int wrong : new int[] {-1, 6, 7, 100, Integer.MIN_VALUE, Integer.MAX_VALUE}) {
            allBad(asks, wrong);
        }
        add(asks, "type(0, 0)", BAD, x -> x.type(0, 0));
        add(asks, "type(0, 9)", BAD, x -> x.type(0, 9));
        add(asks, "house(0, 7)", BAD, x -> x.house(0, 7));
        add(asks, "told(3)", BAD, x -> x.told(3));
        add(asks, "brings(0, 4)", BAD, x -> x.brings(0, 4));
        add(asks, "brings(3, 0)", BAD, x -> x.brings(3, 0));
        add(asks, "table(4, 0)", BAD, x -> x.table(4, 0));
        add(asks, "table(0, 3)", BAD, x -> x.table(0, 3));
        add(asks, "eat(2)", BAD, x -> x.eat(2));
        add(asks, "ill(0, 2)", BAD, x -> x.ill(0, 2));
        add(asks, "ill(3, 1)", BAD, x -> x.ill(3, 1));
        add(asks, "rate(6, 0)", NO, x -> x.rate(6, 0));
        add(asks, "rate(3, 3)", NO, x -> x.rate(3, 3));
        add(asks, "keep(2)", BAD, x -> x.keep(2));
        add(asks, "back(2)", BAD, x -> x.back(2));
        add(asks, "call(2, 1, -1)", BAD, x -> x.call(2, 1, -1));
        boolean houses = !past.name.equals("a new object");
        if (houses) {
            add(asks, "brings(0, 1), it can't", STATE, x -> x.brings(0, 1));
            add(asks, "brings(2, 0), it can't", STATE, x -> x.brings(2, 0));
        }
        if (past.eaten) {
            add(asks, "brings(0, 0), all have eaten", STATE, x -> x.brings(0, 0));
            add(asks, "evening(), all have eaten", STATE, EachBrings::evening);
            add(asks, "eat(0), they have", STATE, x -> x.eat(0));
            add(asks, "eat(1), they have", STATE, x -> x.eat(1));
        } else if (houses) {
            add(asks, "hungry(0), they have not eaten", STATE, x -> x.hungry(0));
            add(asks, "ill(0, 1), they have not eaten", STATE, x -> x.ill(0, 1));
            add(asks, "ill(2, 0), they have not eaten", STATE, x -> x.ill(2, 0));
        }
        if (past.name.equals("some have brought")) {
            add(asks, "brings(0, 2), it has brought", STATE, x -> x.brings(0, 2));
            add(asks, "brings(1, 1), it has brought", STATE, x -> x.brings(1, 1));
        }
        for (int image = 0; image <= 1; image++) {
            int which = image;
            if ((past.kept >> image & 1) == 0) {
                add(asks, "back(" + image + "), none was kept", STATE, x -> x.back(which));
            }
        }
        if (past.full) {
            for (int n = 1; n <= 8; n++) {
                int bytes = n;
                add(asks, "type(-1, " + n + "), full", FULL, x -> x.type(-1, bytes));
            }
            add(asks, "village(), too early", -310, EachBrings::village);
        }
        if (past.name.startsWith("all have brought")) {
            add(asks, "village(), too early", -23, EachBrings::village);
        }
        return asks;
    }

    /** Each call with one number that is not as told, in each place. */
    private static void allBad(List<Ask> asks, int wrong) {
        String w = "(" + wrong + " as a number)";
        if (wrong < 1 || wrong > 8) {
            add(asks, "type " + w, BAD, x -> x.type(65, wrong));
        }
        add(asks, "house " + w, BAD, x -> x.house(wrong, 0));
        add(asks, "brings " + w, BAD, x -> x.brings(wrong, 0));
        add(asks, "brings a sort " + w, BAD, x -> x.brings(0, wrong));
        add(asks, "table " + w, BAD, x -> x.table(wrong, 0));
        add(asks, "table what " + w, BAD, x -> x.table(0, wrong));
        add(asks, "told " + w, BAD, x -> x.told(wrong));
        add(asks, "eat " + w, BAD, x -> x.eat(wrong));
        add(asks, "ate " + w, BAD, x -> x.ate(wrong, 0));
        add(asks, "ate of a sort " + w, BAD, x -> x.ate(0, wrong));
        add(asks, "hungry " + w, BAD, x -> x.hungry(wrong));
        add(asks, "odds " + w, NO, x -> x.odds(wrong, 0, 0));
        add(asks, "odds what " + w, NO, x -> x.odds(0, 0, wrong));
        add(asks, "all " + w, NO, x -> x.all(wrong));
        add(asks, "call a " + w, BAD, x -> x.call(wrong, 1, -1));
        add(asks, "swings " + w, BAD, x -> x.swings(wrong));
        add(asks, "ill " + w, BAD, x -> x.ill(wrong, 1));
        add(asks, "ill is " + w, BAD, x -> x.ill(0, wrong));
        add(asks, "rests what " + w, BAD, x -> x.rests(1, 1, wrong));
        add(asks, "rate " + w, NO, x -> x.rate(wrong, 0));
        add(asks, "rate of a house " + w, NO, x -> x.rate(0, wrong));
        add(asks, "keep " + w, BAD, x -> x.keep(wrong));
        add(asks, "back " + w, BAD, x -> x.back(wrong));
        add(asks, "count " + w, BAD, x -> x.count(wrong == -1 ? -1 : Math.max(6, wrong)));
    }

    private static List<Ask> questions() {
        List<Ask> asks = new ArrayList<>();
        for (int i = 0; i <= 6; i++) {
            int what = i;
            add(asks, "house(0, " + i + ")", 0, x -> x.house(0, what));
            add(asks, "told(" + i + ")", 0, x -> x.told(what));
            add(asks, "count(" + i + ")", 0, x -> x.count(what));
            add(asks, "odds(1, " + i + ", 0)", 0, x -> x.odds(1, what, 0));
        }
        for (int i = 0; i <= 1; i++) {
            int what = i;
            add(asks, "all(" + i + ")", 0, x -> x.all(what));
            add(asks, "swings(" + i + ")", 0, x -> x.swings(what));
            add(asks, "rests(1, 2, " + i + ")", 0, x -> x.rests(1, 2, what));
            add(asks, "call(1, 2, " + (i - 1) + ")", 0, x -> x.call(1, 2, what - 1));
            add(asks, "call(0, 2, " + (i - 1) + ")", 0, x -> x.call(0, 2, what - 1));
            add(asks, "ate(0, " + i + ")", 0, x -> x.ate(0, what));
            add(asks, "hungry(" + i + ")", 0, x -> x.hungry(what));
        }
        for (int i = 0; i <= 2; i++) {
            int what = i;
            add(asks, "table(0, " + i + ")", 0, x -> x.table(0, what));
        }
        add(asks, "shared()", 0, EachBrings::shared);
        add(asks, "suspects()", 0, EachBrings::suspects);
        add(asks, "trace()", 0, EachBrings::trace);
        return asks;
    }

    private static void changesNothing(Past past, Ask ask, boolean isRefused) {
        C.sentence((isRefused ? "Refused, and nothing changes: " : "(Nothing is changed.) ") + past.name + ", "
                + ask.name);
        for (int i = 0; i < BEHIND.size(); i++) {
            EachBrings asked = past.make();
            EachBrings other = past.make();
            long got = ask.call.applyAsLong(asked);
            if (isRefused) {
                C.due(ask.name, got, ask.due);
            } else {
                C.due(ask.name + " again", ask.call.applyAsLong(asked), got);
            }
            BEHIND.get(i).accept(asked);
            BEHIND.get(i).accept(other);
            List<Long> seen = look(asked);
            List<Long> want = look(other);
            for (int k = 0; k < want.size(); k++) {
                C.due("behind " + i + ", look " + k, seen.get(k), want.get(k));
            }
        }
    }

    /** All that can be seen of an object, in few enough calls. */
    private static List<Long> look(EachBrings x) {
        List<Long> seen = new ArrayList<>();
        for (int what = 0; what <= 5; what++) {
            seen.add((long) x.count(what));
        }
        for (int h = 0; h < 4; h++) {
            for (int what = 0; what <= 6; what++) {
                seen.add((long) x.house(h, what));
            }
            for (int s = 0; s < 4; s++) {
                seen.add((long) x.ate(h, s));
            }
            seen.add((long) x.hungry(h));
            seen.add((long) x.call(1, 2, h));
        }
        for (int s = 0; s < 4; s++) {
            seen.add(x.odds(s, 1, 0));
            for (int what = 0; what < 3; what++) {
                seen.add((long) x.table(s, what));
            }
        }
        for (int what = 0; what < 3; what++) {
            seen.add((long) x.told(what));
            seen.add(x.all(what));
            seen.add((long) x.swings(what));
            seen.add((long) x.rests(2, 3, what));
        }
        seen.add((long) x.shared());
        seen.add((long) x.suspects());
        seen.add(x.trace());
        seen.add((long) x.lot(1));
        return seen;
    }

    /** A life of 512 calls: the last ones answer as the first ones do. */
    private static void fiveHundredAndTwelve() {
        C.sentence("An object is used for at most 512 calls after it has been made");
        EachBrings x = new EachBrings();
        for (int year = 1; year <= 512; year++) {
            C.due("year() as call " + year, x.year(), year);
        }
        x = new EachBrings();
        int calls = 0;
        for (int round = 0; calls + 8 <= 512; round++) {
            C.due("type, round " + round, x.type(Checks.asNumber("house 1 "), 8), 8);
            C.due("type, round " + round, x.type(Checks.asNumber("0 0 0 5;"), 8), 16);
            C.due("village, round " + round, x.village(), 1);
            C.due("evening, round " + round, x.evening(), 1);
            C.due("eat, round " + round, x.eat(0), 5);
            C.due("keep, round " + round, x.keep(round % 2), 0);
            C.due("rate, round " + round, x.rate(2, 0), 0);
            C.due("trace, round " + round, x.trace(), 101L * (round + 1));
            calls += 8;
        }
        C.due("all 512 calls were made", calls, 512);
        x = new EachBrings();
        int had = 0;
        for (int call = 1; call <= 512; call++) {
            int due = had + 1 > 300 ? FULL : had + 1;
            C.due("type(32, 1) as call " + call, x.type(32, 1), due);
            had = Math.min(300, had + 1);
        }
        x = Checks.village("house 9 6 2 9 1;house 8 8 5 8 1;house 8 6 7 0 1;house 9 9 9 2 1;house 0 9 0 9 1;"
                + "house 6 0 7 9 1;");
        for (int call = 14; call < 512; call += 2) {
            C.due("the dearest questions: call(1, 1, -1)", x.call(1, 1, -1), 4);
            C.due("the dearest questions: swings(0)", x.swings(0), EachBrings.NONE);
        }
    }
}
