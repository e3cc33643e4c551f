/** What all tests share: counting wrong answers, and typing a text. */
final class Checks {
    private int wrong = 0;
    private int asked = 0;
    private String sentence = "";
    private int askedBefore = 0;

    /** The document's sentence that the next answers hold to; one that nothing was asked of is a mistake. */
    void sentence(String words) {
        if (!sentence.isEmpty() && asked == askedBefore) {
            throw new IllegalStateException("nothing was asked of: " + sentence);
        }
        sentence = words;
        askedBefore = asked;
    }

    void due(String call, long got, long want) {
        asked++;
        if (got != want) {
            wrong++;
            System.out.println(heading() + call + " answered " + got + ", due is " + want);
        }
    }

    void holds(String what, boolean so) {
        asked++;
        if (!so) {
            wrong++;
            System.out.println(heading() + "does not hold: " + what);
        }
    }

    private String heading() {
        return sentence.isEmpty() ? "" : "[" + sentence + "] ";
    }

    boolean isClean() {
        return wrong == 0;
    }

    void end() {
        sentence("");
        System.out.println(asked + " answers, " + wrong + " wrong");
        if (wrong != 0 || asked == 0) {
            System.exit(1);
        }
    }

    /** Types a text, eight bytes a call, and answers the last call's answer (0 for an empty text). */
    static int type(EachBrings x, String text) {
        int answer = 0;
        for (int from = 0; from < text.length(); from += 8) {
            String part = text.substring(from, Math.min(text.length(), from + 8));
            answer = x.type(asNumber(part), part.length());
        }
        return answer;
    }

    static long asNumber(String part) {
        long v = 0;
        for (int i = 0; i < part.length(); i++) {
            v = v << 8 | part.charAt(i) & 255;
        }
        return v;
    }

    /** A new object whose village is told by a text that must stand. */
    static EachBrings village(String text) {
        EachBrings x = new EachBrings();
        type(x, text);
        if (x.village() < 0) {
            throw new IllegalStateException("the test's own text has a fault: " + text);
        }
        return x;
    }
}
