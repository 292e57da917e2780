/** What the tests share: due answers, texts typed, programs read. */
final class Check {
    private static int wrong = 0;
    private static int made = 0;
    private static String sentence = "";
    private static int madeBefore = 0;

    private Check() {
    }

    /** The words of the document that the answers behind this are due by; each must get some. */
    static void says(String words) {
        if (!sentence.isEmpty() && made == madeBefore) {
            wrong++;
            System.out.println("never tried: " + sentence);
        }
        sentence = words;
        madeBefore = made;
    }

    static void due(String call, long got, long want) {
        made++;
        if (got != want) {
            wrong++;
            System.out.println(call + " answered " + got + ", due is " + want + bySentence());
        }
    }

    static void isTrue(String what, boolean holds) {
        made++;
        if (!holds) {
            wrong++;
            System.out.println("not so: " + what + bySentence());
        }
    }

    private static String bySentence() {
        return sentence.isEmpty() ? "" : " (" + sentence + ")";
    }

    /** Types a text; its signs are its bytes. */
    static FlowConstants type(FlowConstants x, String text) {
        for (int i = 0; i < text.length(); i++) {
            x.type(text.charAt(i));
        }
        return x;
    }

    /** A new object that has read a text; the names it must have are told too. */
    static FlowConstants read(String text, int names) {
        FlowConstants x = type(new FlowConstants(), text);
        due("program() of " + text, x.program(), names);
        return x;
    }

    /** What program() answers to a text; a fault leaves the text as it is. */
    static void fault(String text, int place) {
        FlowConstants x = type(new FlowConstants(), text);
        due("program() of \"" + text + "\"", x.program(), -10 - place);
        due("bytes left of \"" + text + "\"", x.count(12), text.length());
        due("blocks after \"" + text + "\"", x.count(1), 0);
    }

    /** The FAULT is due at the bar, which is no part of the text. */
    static void faultAtBar(String marked) {
        int place = marked.indexOf('|');
        fault(marked.substring(0, place) + marked.substring(place + 1), place);
    }

    /** All is right but for one thing that is not STRICT. */
    static void notStrict(String text) {
        fault(text, text.length());
    }

    /** A call that tells its number by asked(). */
    static void asked(String call, FlowConstants x, int got, int want, int told) {
        due(call, got, want);
        due("asked() behind " + call, x.asked(), told);
    }

    static int wrong() {
        return wrong;
    }

    static void end(String test) {
        says("");
        System.out.println(test + ": " + made + " answers, " + wrong + " wrong");
        if (wrong != 0 || made == 0) {
            System.exit(1);
        }
    }
}
