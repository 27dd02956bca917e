/** Promises 21 to 24: the pad, its fault, and its orders. */
public final class TextsTest {
    public static void main(String[] args) {
        put();
        wipe();
        faults();
        carryOut();
        carryOutStops();
        eachOrder();
        Check.finish();
    }

    private static void put() {
        SweetWraps x = new SweetWraps();
        for (long wrong : new long[] {0, 32, 127, 128, 255, 256, 0x7400L, 0x74006174L, 0x2074L, 0x747FL, -1,
                Long.MIN_VALUE, Long.MAX_VALUE, 0x0100000000000074L, 0xF474747474747474L, 0x1F74747474747474L}) {
            Check.due("put(" + wrong + ")", x.put(wrong), -2);
        }
        Check.due("nothing is put", x.count(15), 0);
        Check.due("put(33)", x.put(33), 1);
        Check.due("put(126)", x.put(126), 2);
        Check.due("put of eight", x.put(Check.packed("h0.0*200")), 10);
        for (int i = 0; i < 8; i++) x.put(Check.packed("~~~~~~~~"));
        Check.due("74", x.count(15), 74);
        Check.due("put over 80", x.put(Check.packed("1234567")), -4);
        Check.due("wrong and over 80", x.put(0x2031323334353637L), -2);
        Check.due("put up to 80", x.put(Check.packed("123456")), 80);
        Check.due("put of one more", x.put(33), -4);
        Check.due("put is no change", x.count(16), 0);
    }

    private static void wipe() {
        SweetWraps x = new SweetWraps();
        Check.due("nothing to wipe", x.wipe(), 0);
        Check.put(x, "t;t;t;x");
        Check.due("wipe", x.wipe(), 7);
        Check.due("empty", x.count(15), 0);
        Check.due("fault of the empty pad", x.fault(), 0);
        Check.put(x, "t");
        Check.due("what was wiped is not read", x.fault(), -6);
        Check.due("wipe is no change", x.count(16), 0);
    }

    private static void fault(String text, int want) {
        SweetWraps x = new SweetWraps();
        Check.put(x, text);
        Check.due("fault of \"" + text + "\"", x.fault(), want);
        Check.due("the pad stays", x.count(15), text.length());
        if (want >= 0) {
            Check.due("carryOut of \"" + text + "\"", x.carryOut(), -3);
            Check.due("the pad stays then, too", x.count(15), text.length());
            Check.due("no change", x.count(16), 0);
        }
    }

    private static void faults() {
        for (String good : new String[] {"t", "h9.9*999", "h0.0*0", "f9+0", "f0+10", "s0", "s999", "a99", "a00",
                "r0", "r100", "t;t", "t;s1;a01;r9;f0+1;h0.0*1"}) {
            fault(good, -6);
        }
        for (String early : new String[] {"h", "h0", "h0.", "h0.0", "h0.0*", "f", "f0", "f0+", "s", "a", "a0", "r",
                "t;", "t;h0.0*1;"}) {
            fault(early, early.length());
        }
        fault("x", 0);
        fault("T", 0);
        fault(";", 0);
        fault("0", 0);
        fault("tt", 1);
        fault("t0", 1);
        fault("t;;t", 2);
        fault("h.0*1", 1);
        fault("h00*1", 2);
        fault("h0.0+1", 4);
        fault("h0.0*x", 5);
        fault("h0.0*00", 6);
        fault("h0.00*1", 4);
        fault("h10.0*1", 2);
        fault("f0*1", 2);
        fault("f0+1000", 6);
        fault("f0+01", 4);
        fault("s-1", 1);
        fault("s1x", 2);
        fault("s1234;x", 4);
        fault("a0;1", 2);
        fault("a012", 3);
        fault("r1000", 4);
        fault("r999x", 4);
        fault("r/", 1);
        fault("r:", 1);
        fault("r9:", 2);
        fault("t;t;x;y", 4);
        StringBuilder full = new StringBuilder("s1");
        for (int i = 0; i < 39; i++) full.append(";t");
        fault(full.toString(), -6);
        fault(full.toString().substring(0, 79) + "r", 80);
    }

    private static void carryOut() {
        SweetWraps x = new SweetWraps();
        Check.due("nothing to carry out", x.carryOut(), -3);
        Check.put(x, "t;h0.2*10;f0+60;r1;s0;t;a24;r99");
        Check.due("carryOut", x.carryOut(), 8);
        Check.due("the pad is empty", x.count(15), 0);
        Check.due("one change", x.count(16), 1);
        Check.due("tins", x.count(1), 2);
        Check.due("shipped", x.ofTin(0, 1) * 10 + x.ofTin(0, 0), 13);
        Check.due("the rest", x.ofTin(1, 0), 7);
        Check.due("apart", x.flavour(2, 3), 16);
        Check.due("ticks", x.count(0), 100);
        Check.due("undo of all", x.undo(), 0);
        Check.due("no tick", x.count(0), 0);
        Check.due("no tin", x.count(1), 0);
        Check.due("the pad does not come back", x.count(15), 0);
        StringBuilder tins = new StringBuilder("t");
        for (int i = 1; i < 40; i++) tins.append(";t");
        Check.put(x, tins.toString());
        Check.due("sixteen of forty", x.carryOut(), 16);
        Check.put(x, tins.toString());
        Check.due("none of forty", x.carryOut(), 0);
        Check.due("two changes", x.count(16), 2);
        Check.due("undo of nothing", x.undo(), 1);
        Check.due("sixteen", x.count(1), 16);
        Check.due("undo of the sixteen", x.undo(), 0);
        Check.due("none", x.count(1), 0);
    }

    private static void carryOutStops() {
        String[] errors = {"h4.0*1", "h0.6*1", "h0.0*0", "h0.0*201", "f4+1", "f0+0", "s0", "s16", "a66", "a11", "a06",
                "r0", "r100"};
        for (String error : errors) {
            SweetWraps x = new SweetWraps();
            Check.put(x, "t;" + error + ";t");
            Check.due("carryOut with " + error, x.carryOut(), 1);
            Check.due("nothing behind the error", x.count(1), 1);
            Check.due("the pad is empty", x.count(15), 0);
            Check.due("one change", x.count(16), 1);
        }
        SweetWraps x = new SweetWraps();
        Check.put(x, "s0");
        Check.due("none is carried out", x.carryOut(), 0);
        Check.due("a change all the same", x.count(16), 1);
        for (int i = 0; i < 12; i++) Check.put(x, "h0.0*1");
        Check.due("faults are looked for first", x.carryOut(), -3);
        Check.due("none of them", x.count(4), 0);
    }

    private static void eachOrder() {
        SweetWraps x = new SweetWraps();
        Check.put(x, "h3.5*200;h2.0*7");
        Check.due("heaps", x.carryOut(), 2);
        Check.due("lane 3", x.of(3, 0) * 10 + x.of(3, 2), 2005);
        Check.due("lane 2", x.of(2, 0) * 10 + x.of(2, 2), 70);
        Check.put(x, "f3+999;f3+11;f1+100");
        Check.due("foils", x.carryOut(), 3);
        Check.due("foil of 3", x.of(3, 3), 1010);
        Check.due("foil of 1", x.of(1, 3), 100);
        Check.put(x, "a05;a05;a54");
        Check.due("aparts", x.carryOut(), 3);
        Check.due("apart", x.flavour(0, 3) * 100 + x.flavour(5, 3), 16);
        Check.put(x, "t;r10;s0;t");
        Check.due("tins", x.carryOut(), 4);
        Check.due("a full tin is shipped", x.count(6), 12);
        Check.due("run for 10", x.count(0), 10);
    }
}
