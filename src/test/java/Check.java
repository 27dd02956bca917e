/** Counts the answers that are not as due; the tests share it. */
final class Check {
    private static int wrong = 0;
    private static String said = "";
    private static int dueSinceSaid = 1;

    private Check() {
    }

    /** Names the sentence of the document, with its section, that the answers below are due by. */
    static void says(String section, String sentence) {
        dueSomethingSaid();
        dueSinceSaid = 0;
        said = section + ", \"" + sentence + "\": ";
    }

    /** A sentence that no answer is due by has no test. */
    private static void dueSomethingSaid() {
        if (dueSinceSaid > 0) return;
        wrong++;
        System.out.println(said + "no answer is due by it");
    }

    static void due(String call, long got, long want) {
        dueSinceSaid++;
        if (got == want) return;
        wrong++;
        if (wrong <= 50) System.out.println(said + call + " answered " + got + ", due is " + want);
    }

    static void same(String what, String got, String want) {
        dueSinceSaid++;
        if (got.equals(want)) return;
        wrong++;
        if (wrong <= 50) System.out.println(said + what + ":\n  is  " + got + "\n  due " + want);
    }

    /** Puts a text on the pad, up to eight characters a call. */
    static void put(SweetWraps x, String text) {
        int before = x.count(15);
        for (int from = 0; from < text.length(); from += 8) {
            int to = Math.min(text.length(), from + 8);
            due("put of \"" + text + "\"", x.put(packed(text.substring(from, to))), before + to);
        }
    }

    static long packed(String characters) {
        long number = 0;
        for (int i = 0; i < characters.length(); i++) {
            number = number << 8 | characters.charAt(i);
        }
        return number;
    }

    static void finish() {
        dueSomethingSaid();
        System.out.println(wrong == 0 ? "all answers are as due" : wrong + " answers are not as due");
        if (wrong != 0) System.exit(1);
    }
}
