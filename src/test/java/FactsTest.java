/** Promises 9 to 16: what there is. */
public final class FactsTest {
    public static void main(String[] args) {
        of();
        ofHeap();
        tins();
        flavour();
        byRoom();
        byCount();
        count();
        changeNothing();
        Check.finish();
    }

    /**
     * Three tins: 0 shipped with 4 of flavour 1, 1 with 2 of each of 1 and 3, 2 empty.
     * A pull is torn if it is a multiple of 20 / 5: the pulls 4 and 8 of lane 0.
     */
    private static SweetWraps machine() {
        SweetWraps x = new SweetWraps();
        x.set(SweetWraps.ROOM, 5);
        x.tin();
        x.heap(0, 1, 4);
        x.foil(0, 100);
        x.set(SweetWraps.SPEED, 5);
        Check.due("four into tin 0", x.run(1), 4);
        x.ship(0);
        x.tin();
        x.tin();
        x.apart(1, 2);
        x.heap(0, 1, 2);
        x.heap(0, 3, 10);
        x.heap(2, 2, 7);
        Check.due("four into tin 1", x.run(1), 4);
        return x;
    }

    private static void of() {
        SweetWraps x = machine();
        int[] facts = {8, 1, 3, 70, 10, 2, 8, 0};
        for (int what = 0; what < facts.length; what++) {
            Check.due("of(0, " + what + ")", x.of(0, what), facts[what]);
        }
        Check.due("of(2, 7)", x.of(2, 7), 3);
        Check.due("of(1, 2)", x.of(1, 2), -6);
        Check.due("of(-1, 99)", x.of(-1, 99), -1);
        Check.due("of(4, 0)", x.of(4, 0), -1);
        Check.due("of(min, 0)", x.of(Integer.MIN_VALUE, 0), -1);
        Check.due("of(max, 0)", x.of(Integer.MAX_VALUE, 0), -1);
        Check.due("of(0, -1)", x.of(0, -1), -2);
        Check.due("of(0, 8)", x.of(0, 8), -2);
    }

    private static void ofHeap() {
        SweetWraps x = new SweetWraps();
        x.heap(1, 4, 9);
        x.heap(1, 2, 3);
        x.heap(1, 4, 1);
        int[] flavours = {4, 2, 4};
        int[] sweets = {9, 3, 1};
        for (int heap = 0; heap < 3; heap++) {
            Check.due("ofHeap(1, " + heap + ", 0)", x.ofHeap(1, heap, 0), flavours[heap]);
            Check.due("ofHeap(1, " + heap + ", 1)", x.ofHeap(1, heap, 1), sweets[heap]);
        }
        Check.due("ofHeap(1, 3, 9)", x.ofHeap(1, 3, 9), -1);
        Check.due("ofHeap(1, -1, 0)", x.ofHeap(1, -1, 0), -1);
        Check.due("ofHeap(1, max, 0)", x.ofHeap(1, Integer.MAX_VALUE, 0), -1);
        Check.due("ofHeap(0, 0, 0)", x.ofHeap(0, 0, 0), -1);
        Check.due("ofHeap(-1, 0, 0)", x.ofHeap(-1, 0, 0), -1);
        Check.due("ofHeap(4, 0, 9)", x.ofHeap(4, 0, 9), -1);
        Check.due("ofHeap(1, 0, -1)", x.ofHeap(1, 0, -1), -2);
        Check.due("ofHeap(1, 0, 2)", x.ofHeap(1, 0, 2), -2);
        x.tin();
        x.foil(1, 99);
        x.run(3);
        Check.due("the first heap shrinks", x.ofHeap(1, 0, 1), 9 - x.of(1, 6));
        x.run(1);
        Check.due("the next one is the first then", x.ofHeap(1, 0, 0), 2);
        Check.due("the third is gone to the second", x.ofHeap(1, 1, 0) * 10 + x.ofHeap(1, 1, 1), 41);
        Check.due("there is no third", x.ofHeap(1, 2, 0), -1);
    }

    private static void tins() {
        SweetWraps x = machine();
        Check.due("ofTin(0, 0)", x.ofTin(0, 0), 4);
        Check.due("ofTin(0, 1)", x.ofTin(0, 1), 1);
        Check.due("ofTin(0, 2)", x.ofTin(0, 2), 2);
        Check.due("shipped: takes none", x.ofTin(0, 3), 0);
        Check.due("ofTin(1, 0)", x.ofTin(1, 0), 4);
        Check.due("ofTin(1, 1)", x.ofTin(1, 1), 0);
        Check.due("ofTin(1, 2)", x.ofTin(1, 2), 10);
        Check.due("all but what is kept apart", x.ofTin(1, 3), 63 - 4);
        Check.due("ofTin(2, 2)", x.ofTin(2, 2), 0);
        Check.due("empty: takes all", x.ofTin(2, 3), 63);
        Check.due("inTin(1, 1)", x.inTin(1, 1), 2);
        Check.due("inTin(1, 3)", x.inTin(1, 3), 2);
        Check.due("inTin(1, 0)", x.inTin(1, 0), 0);
        Check.due("inTin(0, 1)", x.inTin(0, 1), 4);
        x.set(SweetWraps.ROOM, 4);
        Check.due("full: takes none", x.ofTin(1, 3), 0);
        x.set(SweetWraps.ROOM, 3);
        Check.due("more than full: takes none", x.ofTin(1, 3), 0);
        for (int tin : new int[] {-1, 3, 16, Integer.MIN_VALUE, Integer.MAX_VALUE}) {
            Check.due("ofTin(" + tin + ", 9)", x.ofTin(tin, 9), -1);
            Check.due("inTin(" + tin + ", 0)", x.inTin(tin, 0), -1);
        }
        Check.due("ofTin(0, -1)", x.ofTin(0, -1), -2);
        Check.due("ofTin(0, 4)", x.ofTin(0, 4), -2);
        Check.due("inTin(0, -1)", x.inTin(0, -1), -1);
        Check.due("inTin(0, 6)", x.inTin(0, 6), -1);
    }

    private static void flavour() {
        SweetWraps x = machine();
        x.heap(3, 3, 5);
        Check.due("flavour(3, 0)", x.flavour(3, 0), 13);
        Check.due("flavour(2, 0)", x.flavour(2, 0), 7);
        Check.due("flavour(1, 0)", x.flavour(1, 0), 0);
        Check.due("flavour(1, 1)", x.flavour(1, 1), 2);
        Check.due("flavour(1, 2)", x.flavour(1, 2), 4);
        Check.due("flavour(3, 1)", x.flavour(3, 1), 2);
        Check.due("flavour(3, 2)", x.flavour(3, 2), 0);
        Check.due("flavour(1, 3)", x.flavour(1, 3), 4);
        Check.due("flavour(2, 3)", x.flavour(2, 3), 2);
        Check.due("flavour(-1, 9)", x.flavour(-1, 9), -1);
        Check.due("flavour(6, 0)", x.flavour(6, 0), -1);
        Check.due("flavour(max, 0)", x.flavour(Integer.MAX_VALUE, 0), -1);
        Check.due("flavour(0, -1)", x.flavour(0, -1), -2);
        Check.due("flavour(0, 4)", x.flavour(0, 4), -2);
    }

    private static void byRoom() {
        SweetWraps x = new SweetWraps();
        Check.due("no tin", x.byRoom(0), -1);
        fillTins(x, new int[] {2, 5, 5, 1});
        x.tin();
        x.tin();
        int[] order = {1, 2, 0, 3, 4, 5};
        for (int rank = 0; rank < order.length; rank++) {
            Check.due("byRoom(" + rank + ")", x.byRoom(rank), order[rank]);
        }
        Check.due("byRoom(6)", x.byRoom(6), -1);
        Check.due("byRoom(-1)", x.byRoom(-1), -1);
        Check.due("byRoom(min)", x.byRoom(Integer.MIN_VALUE), -1);
        Check.due("byRoom(max)", x.byRoom(Integer.MAX_VALUE), -1);
        x.ship(1);
        Check.due("a shipped one is left out", x.byRoom(0), 2);
        Check.due("and not counted", x.byRoom(5), -1);
    }

    /** Fills tins of those counts, one after the other, each with ROOM set to its count. */
    private static void fillTins(SweetWraps x, int[] counts) {
        x.set(SweetWraps.SPEED, 1);
        x.set(SweetWraps.TEAR, 60);
        x.foil(0, 999);
        for (int i = 0; i < counts.length; i++) {
            x.tin();
        }
        for (int tin = 0; tin < counts.length; tin++) {
            // a tin is kept for itself by flavours that the tins before it don't take
            for (int before = 0; before < tin; before++) x.apart(before, tin);
            x.heap(0, tin, counts[tin]);
            x.run(counts[tin]);
        }
        for (int tin = 0; tin < counts.length; tin++) {
            Check.due("tin " + tin, x.ofTin(tin, 0), counts[tin]);
        }
    }

    private static void byCount() {
        SweetWraps x = new SweetWraps();
        Check.due("no sweet", x.byCount(0), -1);
        fillTins(x, new int[] {2, 5, 5, 1});
        int[] order = {1, 2, 0, 3};
        for (int rank = 0; rank < order.length; rank++) {
            Check.due("byCount(" + rank + ")", x.byCount(rank), order[rank]);
        }
        Check.due("byCount(4)", x.byCount(4), -1);
        Check.due("byCount(-1)", x.byCount(-1), -1);
        Check.due("byCount(min)", x.byCount(Integer.MIN_VALUE), -1);
        Check.due("byCount(max)", x.byCount(Integer.MAX_VALUE), -1);
        x.ship(2);
        Check.due("shipped ones count", x.byCount(1), 2);
        x.heap(1, 4, 200);
        Check.due("hoppers don't", x.byCount(4), -1);
        x.heap(0, 3, 2);
        x.run(9);
        Check.due("3 has more than 0 then", x.byCount(2) * 10 + x.byCount(3), 30);
    }

    private static void count() {
        SweetWraps x = machine();
        Check.put(x, "t;t");
        int[] numbers = {2, 3, 6, 1, 15, 8, 4, 70, 30, 6, 14, 5, 20, 5, 1, 3, 6};
        for (int what = 0; what < numbers.length; what++) {
            Check.due("count(" + what + ")", x.count(what), numbers[what]);
        }
        Check.due("count(-1)", x.count(-1), -2);
        Check.due("count(17)", x.count(17), -2);
        Check.due("count(min)", x.count(Integer.MIN_VALUE), -2);
        Check.due("count(max)", x.count(Integer.MAX_VALUE), -2);
        x.set(SweetWraps.TWIST, 2);
        x.set(SweetWraps.SPEED, 1);
        x.run(1);
        Check.due("foil by the twists of its time", x.count(8), 34);
        Check.due("foil that is left", x.count(7), 66);
    }

    private static void changeNothing() {
        SweetWraps x = machine();
        int before = x.count(16);
        for (int i = 0; i < 20; i++) {
            x.of(0, i);
            x.ofHeap(0, 0, i);
            x.ofTin(0, i);
            x.inTin(0, i);
            x.flavour(0, i);
            x.byRoom(i);
            x.byCount(i);
            x.count(i);
        }
        Check.due("no change", x.count(16), before);
        Check.due("ticks", x.count(0), 2);
    }
}
