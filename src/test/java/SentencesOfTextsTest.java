/** Each sentence on texts, and of promises 21 to 24. */
public final class SentencesOfTextsTest {
    private static final String DIGITS = "0123456789";
    private static final String LETTERS = "hftsar";

    public static void main(String[] args) {
        texts();
        put();
        wipe();
        fault();
        carryOut();
        Check.finish();
    }

    private static SweetWraps withText(String text) {
        SweetWraps x = new SweetWraps();
        Check.put(x, text);
        return x;
    }

    private static void dueFault(String text, int due) {
        SweetWraps x = withText(text);
        Check.due("fault of \"" + text + "\"", x.fault(), due);
        Check.due("length of \"" + text + "\"", x.count(15), text.length());
    }

    /** Behind a beginning only some characters can stand; behind some of them the text may end. */
    private static void dueNext(String beginning, String standing, String ending) {
        for (char next = 33; next <= 126; next++) {
            String text = beginning + next;
            boolean stands = standing.indexOf(next) >= 0;
            int due = !stands ? beginning.length() : ending.indexOf(next) >= 0 ? SweetWraps.NONE : text.length();
            dueFault(text, due);
            if (!stands) dueFault(text + ";t", beginning.length());
        }
    }

    // ---- texts

    private static void texts() {
        eightyCharacters();
        Check.says("Terms", "text = order { \";\" order }");
        dueNext("t", ";", "");
        dueNext("t;", LETTERS, "t");
        dueNext("t;t", ";", "");
        dueNext("t;t;", LETTERS, "t");
        dueFault("t;s1;a01;r9;f0+1;h0.0*1;t", -6);
        shapes();
        meanings();
        numbers();
        faults();
    }

    private static void eightyCharacters() {
        Check.says("Terms", "The pad is a text of at most 80 characters, a row of orders:");
        SweetWraps x = withText("s1;" + "t;".repeat(38) + "t");
        Check.due("80", x.count(15), 80);
        Check.due("a row of 40 orders", x.fault(), -6);
        Check.due("81", x.put('t'), -4);
        Check.due("80 still", x.count(15), 80);
        x = withText("h0.0*200;".repeat(8) + "f1+999;t");
        Check.due("80 in ten orders", x.count(15), 80);
        Check.due("no fault", x.fault(), -6);
        Check.due("up to the fifth heap", x.carryOut(), 4);
    }

    private static void shapes() {
        Check.says("Terms", "order = \"h\" digit \".\" digit \"*\" number | \"f\" digit \"+\" number | \"t\" | "
                + "\"s\" number | \"a\" digit digit | \"r\" number");
        for (String ahead : new String[] {"", "t;", "r12;a50;"}) {
            dueNext(ahead, LETTERS, "t");
            dueNext(ahead + "h", DIGITS, "");
            dueNext(ahead + "h7", ".", "");
            dueNext(ahead + "h7.", DIGITS, "");
            dueNext(ahead + "h7.2", "*", "");
            dueNext(ahead + "h7.2*", DIGITS, DIGITS);
            dueNext(ahead + "h7.2*5", DIGITS + ";", DIGITS);
            dueNext(ahead + "f", DIGITS, "");
            dueNext(ahead + "f0", "+", "");
            dueNext(ahead + "f0+", DIGITS, DIGITS);
            dueNext(ahead + "f0+9", DIGITS + ";", DIGITS);
            dueNext(ahead + "t", ";", "");
            dueNext(ahead + "s", DIGITS, DIGITS);
            dueNext(ahead + "s1", DIGITS + ";", DIGITS);
            dueNext(ahead + "a", DIGITS, "");
            dueNext(ahead + "a0", DIGITS, DIGITS);
            dueNext(ahead + "a09", ";", "");
            dueNext(ahead + "r", DIGITS, DIGITS);
            dueNext(ahead + "r9", DIGITS + ";", DIGITS);
        }
    }

    private static void meanings() {
        Check.says("Terms", "\"h\": heap() for a lane of a flavour, of so many sweets;");
        for (int lane = 0; lane < 4; lane++) {
            for (int flavour = 0; flavour < 6; flavour++) {
                SweetWraps x = withText("h" + lane + "." + flavour + "*" + (7 + 20 * flavour));
                Check.due("one", x.carryOut(), 1);
                Check.due("lane", x.of(lane, 0), 7 + 20 * flavour);
                Check.due("flavour", x.of(lane, 2), flavour);
            }
        }
        Check.says("Terms", "\"f\": foil() for a lane;");
        SweetWraps x = withText("f0+1;f1+20;f2+300;f3+999;f3+999");
        Check.due("five", x.carryOut(), 5);
        int[] foil = {1, 20, 300, 1998};
        for (int lane = 0; lane < 4; lane++) Check.due("foil", x.of(lane, 3), foil[lane]);
        Check.says("Terms", "\"t\": tin();");
        x = withText("t;t;t");
        Check.due("three", x.carryOut(), 3);
        Check.due("tins", x.count(2), 7);
        Check.says("Terms", "\"s\": ship() a tin;");
        x = Given.slowWithTins(16);
        x.set(SweetWraps.ROOM, 1);
        for (int tin = 0; tin < 16; tin++) Given.wrap(x, 0, 0, 1);
        Check.put(x, "s0;s7;s10;s15");
        Check.due("four", x.carryOut(), 4);
        Check.due("shipped", x.count(3), 1 + 128 + 1024 + 32768);
        Check.says("Terms", "\"a\": apart() two flavours;");
        x = withText("a05;a51;a23;a32");
        Check.due("four", x.carryOut(), 4);
        int[] apart = {32, 32, 0, 0, 0, 3};
        for (int flavour = 0; flavour < 6; flavour++) Check.due("apart", x.flavour(flavour, 3), apart[flavour]);
        Check.says("Terms", "\"r\": run() ticks.");
        x = withText("r1;r20;r99");
        Check.due("three", x.carryOut(), 3);
        Check.due("ticks", x.count(0), 120);
    }

    private static void numbers() {
        Check.says("Terms", "A digit is 0 to 9, a number 0 to 999, without leading zeros.");
        for (int digit = 0; digit <= 9; digit++) {
            dueFault("h" + digit + "." + digit + "*1", -6);
            dueFault("f" + digit + "+" + digit, -6);
            dueFault("a" + digit + digit, -6);
            dueFault("s0" + digit, 2);
            dueFault("r00" + digit, 2);
            dueFault("f1+0" + digit + ";t", 4);
            dueFault("h1.1*0" + digit, 6);
        }
        for (int number = 0; number <= 999; number++) {
            dueFault("s" + number, -6);
            dueFault("r" + number + ";t", -6);
        }
        dueNext("s0", ";", "");
        dueNext("r0", ";", "");
        dueNext("f3+0", ";", "");
        dueNext("h3.3*0", ";", "");
        dueNext("s100", ";", "");
        dueNext("r999", ";", "");
        dueNext("f3+999", ";", "");
        dueNext("h3.3*999", ";", "");
        dueNext("h3.3*99", DIGITS + ";", DIGITS);
    }

    private static void faults() {
        Check.says("Terms", "The fault is the index of the first character that cannot stand at its place when the text "
                + "is read from left to right");
        dueFault("t;x;y;z", 2);
        dueFault("x", 0);
        dueFault("~!~!", 0);
        dueFault("t;t;t;t;t;t;t;t;t;t;t;t;t;t;t;t;t;t;t;t;t;t;t;t;t;t;t;t;t;t;t;t;t;t;t;t;t;t;t;tt", 79);
        dueFault("T", 0);
        dueFault("h1.1*1;H", 7);
        Check.says("Terms", "(also of a digit by which a number would be above 999);");
        dueFault("s1000", 4);
        dueFault("s9999;x", 4);
        dueFault("t;r1234567", 6);
        dueFault("f0+1000", 6);
        dueFault("h0.0*1000", 8);
        Check.says("Terms", "if there is none and the text ends too early (also if it is empty), it is the length of the text.");
        dueFault("", 0);
        for (String early : new String[] {"h", "h0", "h0.", "h0.0", "h0.0*", "f", "f0", "f0+", "s", "a", "a0", "r"}) {
            dueFault(early, early.length());
            dueFault("r99;" + early, 4 + early.length());
        }
        dueFault("t;", 2);
        dueFault("t;t;", 4);
        dueFault("t;".repeat(40), 80);
        dueFault("s1;" + "t;".repeat(38) + "r", 80);
    }

    // ---- promise 21

    private static void put() {
        Check.says("Promise 21", "Appends characters to the pad.");
        SweetWraps x = new SweetWraps();
        x.put(Check.packed("h2.4"));
        x.put(Check.packed("*"));
        x.put(Check.packed("12"));
        Check.due("one behind the other", x.carryOut(), 1);
        Check.due("lane 2", x.of(2, 0) * 10 + x.of(2, 2), 124);
        orderOfCharacters();
        nothingAboveZeros();
        Check.says("Promise 21", "- `characters`: 1 to 8 characters");
        for (int many = 1; many <= 8; many++) {
            x = new SweetWraps();
            Check.due("characters", x.put(Check.packed("s9;t;t;t".substring(8 - many))), many);
        }
        lengthOfThePad();
        badCharacters();
        padIsFull();
    }

    private static void orderOfCharacters() {
        Check.says("Promise 21", "They are given as a number: its lowest 8 bits are the last character, "
                + "the next 8 bits the one before, and so on;");
        SweetWraps x = new SweetWraps();
        Check.due("t", x.put(0x74), 1);
        Check.due("t;", x.put(0x3B), 2);
        Check.due("t;r9", x.put(0x7239), 4);
        Check.due("no fault", x.fault(), -6);
        Check.due("two orders", x.carryOut(), 2);
        Check.due("9 ticks", x.count(0), 9);
        Check.due("h0.1*234 at once", x.put(0x68302E312A323334L), 8);
        Check.due("one order", x.carryOut(), 0);
        Check.due("h3.1*123 at once", x.put(0x68332E312A313233L), 8);
        Check.due("one order", x.carryOut(), 1);
        Check.due("123 in lane 3", x.of(3, 0), 123);
        Check.due("f0+987 at once", x.put(0x66302B393837L), 6);
        Check.due("one order", x.carryOut(), 1);
        Check.due("987 in lane 0", x.of(0, 3), 987);
    }

    private static void nothingAboveZeros() {
        Check.says("Promise 21", "8 bits that are 0 mean that there are no more characters, and everything above them has "
                + "to be 0, too.");
        SweetWraps x = new SweetWraps();
        int length = 0;
        long number = 0;
        for (int many = 1; many <= 7; many++) {
            number = number << 8 | 't';
            length += many;
            Check.due("no more characters", x.put(number), length);
            for (int bit = 8 * many + 8; bit < 64; bit++) {
                Check.due("bit " + bit + " above " + many, x.put(number | 1L << bit), -2);
            }
        }
        Check.due("length", x.count(15), 28);
        for (int place = 1; place < 7; place++) {
            long hole = Check.packed("tttttttt") & ~(255L << 8 * place);
            Check.due("a hole at " + place, x.put(hole), -2);
        }
        Check.due("a hole at the end", x.put(0x7400), -2);
        Check.due("a hole at the beginning is none", x.put(Check.packed("ttttttt")), 35);
    }

    private static void lengthOfThePad() {
        Check.says("Promise 21", "Returns the length of the pad then;");
        SweetWraps x = new SweetWraps();
        int length = 0;
        for (int many = 1; many <= 8; many++) {
            length += many;
            Check.due("all characters so far", x.put(Check.packed("tttttttt".substring(8 - many))), length);
            Check.due("all characters so far", x.count(15), length);
        }
        x.wipe();
        Check.due("of an empty one", x.put('x'), 1);
    }

    private static void badCharacters() {
        Check.says("Promise 21", "BAD_VALUE if there is no character, a code is not 33 to 126, or a bit above 8 bits that "
                + "are 0 is not 0;");
        Check.due("no character", new SweetWraps().put(0), -2);
        for (int place = 0; place < 8; place++) {
            for (int code = 1; code < 256; code++) {
                long number = Check.packed("tttttttt") & ~(255L << 8 * place) | (long) code << 8 * place;
                Check.due("code " + code + " at " + place, new SweetWraps().put(number), code > 32 && code < 127 ? 8 : -2);
            }
        }
        for (int code = 1; code < 256; code++) {
            Check.due("code " + code, new SweetWraps().put(code), code > 32 && code < 127 ? 1 : -2);
        }
        for (int bit = 8; bit < 64; bit++) Check.due("a bit alone", new SweetWraps().put(1L << bit), -2);
        SweetWraps x = new SweetWraps();
        for (long number : new long[] {-1, -2, -116, Long.MIN_VALUE, Long.MAX_VALUE, Integer.MIN_VALUE, ~0x74L}) {
            Check.due("far out", x.put(number), -2);
        }
        Check.due("nothing is put", x.count(15), 0);
        Check.due("and nothing is there", x.fault(), 0);
    }

    private static void padIsFull() {
        Check.says("Promise 21", "TOO_MANY if the pad would be longer than 80.");
        for (int room = 0; room <= 9; room++) {
            for (int many = 1; many <= 8; many++) {
                SweetWraps x = withText("t".repeat(80 - room));
                int due = many <= room ? 80 - room + many : -4;
                Check.due(many + " into " + room, x.put(Check.packed("tttttttt".substring(8 - many))), due);
                Check.due("length", x.count(15), due < 0 ? 80 - room : due);
            }
        }
        SweetWraps x = withText("t;".repeat(38) + "r9");
        Check.due("over 80 by one", x.put(Check.packed(";r99;")), -4);
        Check.due("nothing of it is put", x.fault(), -6);
        Check.due("up to 80", x.put(Check.packed("9")), 79);
        Check.due("no fault", x.fault(), -6);
    }

    // ---- promise 22

    private static void wipe() {
        Check.says("Promise 22", "Empties the pad, and returns the length that it had.");
        SweetWraps x = new SweetWraps();
        Check.due("of an empty one", x.wipe(), 0);
        for (int length : new int[] {1, 2, 40, 79, 80}) {
            Check.put(x, "t".repeat(length));
            Check.due("the length that it had", x.wipe(), length);
            Check.due("empty", x.count(15), 0);
            Check.due("the fault of an empty one", x.fault(), 0);
            Check.due("twice", x.wipe(), 0);
        }
        Check.put(x, "r7;r8;r9");
        x.wipe();
        Check.put(x, "r1");
        Check.due("nothing of it is left", x.carryOut(), 1);
        Check.due("one tick", x.count(0), 1);
    }

    // ---- promise 23

    private static void fault() {
        Check.says("Promise 23", "Returns the fault of the pad, NONE if there is none.");
        SweetWraps x = new SweetWraps();
        Check.due("empty", x.fault(), 0);
        x.put('t');
        Check.due("t", x.fault(), -6);
        Check.due("again", x.fault(), -6);
        x.put(';');
        Check.due("t;", x.fault(), 2);
        x.put(';');
        Check.due("t;;", x.fault(), 2);
        x.put('t');
        Check.due("t;;t", x.fault(), 2);
        Check.due("the pad stays", x.count(15), 4);
        x.wipe();
        Check.put(x, "h9.9*999;s999;f9+0;a99;r0");
        Check.due("orders that would fail are no fault", x.fault(), -6);
        Check.due("nothing is carried out", x.count(16), 0);
    }

    // ---- promise 24

    private static void carryOut() {
        oneAfterTheOther();
        upToTheFirstError();
        Check.says("Promise 24", "This is a change (one, with all of them; also if none is carried out).");
        SweetWraps x = withText("t;t;r5;h0.0*9");
        x.carryOut();
        Check.due("one", x.count(16), 1);
        Check.put(x, "s9");
        Check.due("none is carried out", x.carryOut(), 0);
        Check.due("another one", x.count(16), 2);
        Check.due("undo of none", x.undo(), 1);
        Check.due("tins", x.count(1), 2);
        Check.due("undo of all", x.undo(), 0);
        Facts.due("as at first", x, new SweetWraps());
        Check.says("Promise 24", "Returns how many orders were carried out;");
        for (int orders = 1; orders <= 16; orders++) {
            Check.due("orders", withText("t;".repeat(orders - 1) + "t").carryOut(), orders);
            Check.due("and one that fails", withText("t;".repeat(orders) + "s0").carryOut(), orders);
            Check.due("and two behind it", withText("t;".repeat(orders) + "a11;t;t").carryOut(), orders);
        }
        faultyPad();
    }

    private static void oneAfterTheOther() {
        Check.says("Promise 24", "Carries the orders of the pad out, one after the other, up to the first one that returns "
                + "an error, and empties the pad.");
        SweetWraps x = withText("t;h1.4*3;f1+9;r1;s0;t;h1.4*2;f1+6;r1;a45");
        Check.due("ten orders", x.carryOut(), 10);
        SweetWraps y = new SweetWraps();
        y.tin();
        y.heap(1, 4, 3);
        y.foil(1, 9);
        Check.due("three", y.run(1), 3);
        y.ship(0);
        y.tin();
        y.heap(1, 4, 2);
        y.foil(1, 6);
        Check.due("two", y.run(1), 2);
        y.apart(4, 5);
        Check.due("the pad is empty", x.count(15), 0);
        Check.due("the fault of an empty one", x.fault(), 0);
        Check.same("as by the calls", Facts.of(x), Facts.of(y));
        Check.due("it can't be carried out twice", x.carryOut(), -3);
    }

    /** Each error of each order ends it; what stood ahead of it is done, what is behind it is not. */
    private static void upToTheFirstError() {
        String[] errors = {"h4.0*1", "h9.0*1", "h0.6*1", "h0.9*1", "h0.0*0", "h0.0*201", "h0.0*999", "h1.0*1", "h2.4*1",
                "f4+1", "f9+999", "f0+0", "f3+1", "t", "s16", "s999", "s0", "s2", "a06", "a60", "a99", "a33", "a01",
                "r0", "r100", "r999", "r1"};
        for (String error : errors) {
            SweetWraps x = Given.atItsBounds();
            x.wipe();
            Check.put(x, "h0.5*7;" + error + ";h0.5*9;r9");
            Check.due("ahead of " + error, x.carryOut(), 1);
            Check.due("heaps", x.of(0, 0), 7);
            Check.due("the pad is empty", x.count(15), 0);
            x.undo();
            Check.due("undone with " + error, x.of(0, 0), 0);
            Check.put(x, error + ";h0.5*9;r9");
            Check.due(error + " alone", x.carryOut(), 0);
            Check.due("nothing behind it", x.of(0, 0), 0);
            Check.due("the pad is empty", x.count(15), 0);
            Check.due("undo of nothing", x.undo(), 5);
        }
    }

    private static void faultyPad() {
        Check.says("Promise 24", "BAD_TEXT if the pad has a fault (then it stays).");
        String[] faulty = {"", "t;", "t;x", "x;t", "t;r1000", "t;s01", "h0.0*1;h0.0*", "t;t;t;t;t;t;t;t;a1"};
        for (String text : faulty) {
            SweetWraps x = withText(text);
            int fault = x.fault();
            Check.due("carryOut of \"" + text + "\"", x.carryOut(), -3);
            Check.due("it stays", x.count(15), text.length());
            Check.due("with its fault", x.fault(), fault);
            Check.due("no change", x.count(16), 0);
            Check.due("no tin", x.count(1), 0);
            Check.due("no sweet", x.count(4), 0);
        }
        SweetWraps x = withText("t;r");
        Check.due("too early", x.carryOut(), -3);
        x.put('3');
        Check.due("it goes on where it ended", x.carryOut(), 2);
        Check.due("three ticks", x.count(0), 3);
    }
}
