/** Machines that tests begin with. Each stays far below the 512 calls that an object is used for. */
final class Given {
    static final int[] LEAST = {1, 4, 1, 1};
    static final int[] MOST = {9, 60, 99, 2};
    static final int[] FIRST = {3, 20, 12, 1};
    /** Wrong for everything that is counted from 0 or 1. */
    static final int[] FAR_OUT = {Integer.MIN_VALUE, Integer.MIN_VALUE + 1, -257, -256, -2, -1, 1000, 65536,
            Integer.MAX_VALUE - 1, Integer.MAX_VALUE};

    private Given() {
    }

    /** One try a tick, and no tear before the 60th pull of a lane. */
    static SweetWraps slow() {
        SweetWraps x = new SweetWraps();
        x.set(SweetWraps.SPEED, 1);
        x.set(SweetWraps.TEAR, 60);
        return x;
    }

    /** Slow, with so many tins. */
    static SweetWraps slowWithTins(int tins) {
        SweetWraps x = slow();
        for (int tin = 0; tin < tins; tin++) x.tin();
        return x;
    }

    /** A slow machine with one twist wraps so many sweets in a lane, for which it gets just their foil. */
    static void wrap(SweetWraps x, int lane, int flavour, int many) {
        x.heap(lane, flavour, many);
        x.foil(lane, 3 * many);
        Check.due("given: wrapped", x.run(many), many);
    }

    /** Fast: in one tick lane 0 wraps all that it has foil for, without a tear, if it has up to 5 sweets. */
    static SweetWraps fastWithTins(int tins) {
        SweetWraps x = new SweetWraps();
        x.set(SweetWraps.TEAR, 60);
        x.set(SweetWraps.SPEED, 9);
        for (int tin = 0; tin < tins; tin++) x.tin();
        return x;
    }

    /** Lane 0 runs for hundreds of ticks, while the others stand. */
    static SweetWraps longRun() {
        SweetWraps x = slowWithTins(9);
        x.set(SweetWraps.ROOM, 99);
        for (int i = 0; i < 4; i++) x.heap(0, 0, 200);
        for (int i = 0; i < 3; i++) x.foil(0, 999);
        return x;
    }

    /** Lets ticks go by, 20 runs of 99 a text, on a pad that is empty. */
    static void letGo1980(SweetWraps x) {
        Check.put(x, "r99;".repeat(19) + "r99");
        Check.due("given: 20 runs", x.carryOut(), 20);
    }

    /**
     * A machine at many bounds at once: tin 0 shipped, tin 1 with flavours 0 and 1, 14 empty ones, 6 heaps in
     * lane 1, 999 sweets in lane 2, 9999 of foil in lane 3, 9999 ticks, 6 changes, a state in slot 0 alone,
     * and a full pad whose fault is its end.
     */
    static SweetWraps atItsBounds() {
        SweetWraps x = slowWithTins(1);
        wrap(x, 0, 2, 3);
        x.ship(0);
        x.tin();
        wrap(x, 0, 0, 2);
        wrap(x, 0, 1, 2);
        for (int tin = 2; tin < 16; tin++) x.tin();
        x.apart(3, 4);
        x.save(0);
        for (int flavour = 0; flavour < 6; flavour++) x.heap(1, flavour, 1);
        for (int i = 0; i < 4; i++) x.heap(2, 4, 200);
        x.heap(2, 4, 199);
        for (int i = 0; i < 10; i++) x.foil(3, 999);
        x.foil(3, 9);
        for (int i = 0; i < 5; i++) letGo1980(x);
        x.run(92);
        for (int i = 0; i < 10; i++) x.put(Check.packed("t;t;t;t;"));
        return x;
    }

    /** A machine in the midst of its work: tins shipped and open, foil torn, flavours apart, four states to undo. */
    static SweetWraps midway() {
        SweetWraps x = new SweetWraps();
        for (int tin = 0; tin < 4; tin++) x.tin();
        x.apart(1, 2);
        x.heap(0, 1, 20);
        x.heap(0, 3, 7);
        x.foil(0, 200);
        x.heap(2, 2, 30);
        x.foil(2, 150);
        x.run(3);
        x.ship(0);
        x.set(SweetWraps.TWIST, 2);
        x.run(2);
        x.foil(1, 5);
        for (int i = 0; i < 2; i++) x.tin();
        for (int i = 0; i < 2; i++) x.undo();
        return x;
    }
}
