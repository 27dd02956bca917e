/** Each sentence of promises 9 to 16. */
public final class SentencesOfFactsTest {
    public static void main(String[] args) {
        lane();
        heap();
        tin();
        inTin();
        flavour();
        byRoom();
        byCount();
        count();
        Check.finish();
    }

    /**
     * Lane 1 with 3 sweets of flavour 4, 2 of 0 and 1 of 4; it pulled 8 times, torn at 4 and 8; foil 20 is left.
     */
    private static SweetWraps laneAtWork() {
        SweetWraps x = new SweetWraps();
        x.set(SweetWraps.TEAR, 4);
        x.set(SweetWraps.SPEED, 1);
        x.tin();
        x.heap(1, 4, 9);
        x.heap(1, 0, 2);
        x.heap(1, 4, 1);
        x.foil(1, 44);
        Check.due("given: six wrapped", x.run(8), 6);
        return x;
    }

    // ---- promise 9

    private static void lane() {
        laneHopper();
        lanePulls();
        laneReason();
        Check.says("Promise 9", "NO_SUCH if there is no such lane;");
        SweetWraps x = laneAtWork();
        for (int what = 0; what < 8; what++) {
            Check.due("lane 4", x.of(4, what), -1);
            for (int lane : Given.FAR_OUT) Check.due("far out", x.of(lane, what), -1);
        }
        Check.says("Promise 9", "BAD_VALUE if what is out of range.");
        for (int lane = 0; lane < 4; lane++) {
            Check.due("8", x.of(lane, 8), -2);
            for (int what : Given.FAR_OUT) Check.due("far out", x.of(lane, what), -2);
        }
    }

    private static void laneHopper() {
        Check.says("Promise 9", "Returns something about a lane.");
        SweetWraps x = laneAtWork();
        int[] due = {6, 3, 4, 20, 8, 2, 6, 0};
        int[] idle = {0, 0, -6, 0, 0, 0, 0, 1};
        for (int what = 0; what < 8; what++) Check.due("of(1, " + what + ")", x.of(1, what), due[what]);
        Check.says("Promise 9", "Returns the number;");
        for (int what = 0; what < 8; what++) {
            for (int lane = 0; lane < 4; lane++) {
                if (lane != 1) Check.due("of another lane: " + what, x.of(lane, what), idle[what]);
            }
        }
        Check.says("Promise 9", "- `what`: 0 sweets in its hopper, 1 heaps,");
        x = new SweetWraps();
        for (int heap = 1; heap <= 6; heap++) {
            x.heap(0, heap % 3, heap);
            Check.due("sweets of all heaps", x.of(0, 0), heap * (heap + 1) / 2);
            Check.due("heaps", x.of(0, 1), heap);
        }
        x.heap(0, 0, 200);
        Check.due("sweets", x.of(0, 0), 221);
        Check.due("heaps as before", x.of(0, 1), 6);
        Check.says("Promise 9", "2 the flavour of its next sweet (NONE),");
        Check.due("of the first heap", x.of(0, 2), 1);
        Check.due("of none", x.of(3, 2), -6);
        for (int flavour = 0; flavour < 6; flavour++) {
            x = new SweetWraps();
            x.heap(2, flavour, 1);
            x.heap(2, (flavour + 1) % 6, 1);
            Check.due("flavour " + flavour, x.of(2, 2), flavour);
        }
        x = Given.slowWithTins(1);
        Given.wrap(x, 0, 5, 1);
        Check.due("none any more", x.of(0, 2), -6);
    }

    private static void lanePulls() {
        Check.says("Promise 9", "3 its foil, 4 pulls, 5 torn ones so far, 6 sweets that it wrapped so far,");
        SweetWraps x = laneAtWork();
        x.foil(1, 100);
        Check.due("foil", x.of(1, 3), 120);
        x.heap(1, 4, 9);
        x.tin();
        int[] torn = {2, 2, 2, 3, 3, 3, 3, 4};
        int[] wrapped = {7, 8, 9, 9, 10, 11, 12, 12};
        for (int pull = 9; pull <= 16; pull++) {
            x.run(1);
            Check.due("pulls", x.of(1, 4), pull);
            Check.due("torn ones", x.of(1, 5), torn[pull - 9]);
            Check.due("wrapped ones", x.of(1, 6), wrapped[pull - 9]);
        }
        Check.due("foil left", x.of(1, 3), 120 - 24);
    }

    private static void laneReason() {
        Check.says("Promise 9", "7 the reason for which its next try would fail, as it is now (0 if none)");
        SweetWraps x = Given.slow();
        Check.due("its hopper is empty", x.of(2, 7), 1);
        x.heap(2, 0, 5);
        Check.due("no tin takes it", x.of(2, 7), 2);
        x.tin();
        Check.due("it has no foil", x.of(2, 7), 3);
        x.foil(2, 3);
        Check.due("none", x.of(2, 7), 0);
        x.heap(1, 1, 12);
        x.foil(1, 36);
        x.set(SweetWraps.SPEED, 9);
        Check.due("as it is now, before lane 1 is done", x.of(2, 7), 0);
        x.set(SweetWraps.SPEED, 1);
        x.run(11);
        Check.due("the tin is full, and there is no foil", x.of(2, 7), 2);
        x.set(SweetWraps.ROOM, 13);
        Check.due("there is room, but no foil", x.of(2, 7), 3);
        x.apart(0, 1);
        x.ship(0);
        x.tin();
        x.foil(2, 3);
        Check.due("none again", x.of(2, 7), 0);
    }

    // ---- promise 10

    private static void heap() {
        SweetWraps x = laneAtWork();
        int[] flavours = {4, 0, 4};
        int[] sweets = {3, 2, 1};
        Check.says("Promise 10", "Returns something about a heap of a lane.");
        for (int heap = 0; heap < 3; heap++) {
            Check.due("flavour of heap " + heap, x.ofHeap(1, heap, 0), flavours[heap]);
            Check.due("sweets of heap " + heap, x.ofHeap(1, heap, 1), sweets[heap]);
        }
        Check.says("Promise 10", "- `heap`: 0 for the first one - `what`: 0 its flavour, 1 its sweets");
        Check.due("the first one is the next one", x.ofHeap(1, 0, 0), x.of(1, 2));
        x.run(2);
        Check.due("its sweets are wrapped", x.ofHeap(1, 0, 1), 1);
        x.undo();
        Check.due("those of the others are not", x.ofHeap(1, 1, 1) * 10 + x.ofHeap(1, 2, 1), 21);
        for (int i = 0; i < 3; i++) x.heap(1, i, 200 - i);
        int[] now = {4, 0, 4, 0, 1, 2};
        int[] sweetsNow = {3, 2, 1, 200, 199, 198};
        Check.says("Promise 10", "Returns the number;");
        for (int heap = 0; heap < 6; heap++) {
            Check.due("flavour of heap " + heap, x.ofHeap(1, heap, 0), now[heap]);
            Check.due("sweets of heap " + heap, x.ofHeap(1, heap, 1), sweetsNow[heap]);
        }
        Check.says("Promise 10", "NO_SUCH if there is no such lane or heap;");
        for (int what = 0; what < 2; what++) {
            Check.due("lane 4", x.ofHeap(4, 0, what), -1);
            Check.due("heap 6 of six", x.ofHeap(1, 6, what), -1);
            Check.due("no heap of lane 0", x.ofHeap(0, 0, what), -1);
            Check.due("heap 3 of three", laneAtWork().ofHeap(1, 3, what), -1);
            for (int wrong : Given.FAR_OUT) {
                Check.due("far out lane", x.ofHeap(wrong, 0, what), -1);
                Check.due("far out heap", x.ofHeap(1, wrong, what), -1);
            }
        }
        Check.says("Promise 10", "BAD_VALUE if what is out of range.");
        for (int heap = 0; heap < 6; heap++) {
            Check.due("2", x.ofHeap(1, heap, 2), -2);
            Check.due("-1", x.ofHeap(1, heap, -1), -2);
        }
        for (int what : Given.FAR_OUT) Check.due("far out", x.ofHeap(1, 0, what), -2);
    }

    // ---- promises 11 and 12

    /** Tin 0: shipped with 2 of flavour 0; tin 1: 3 of flavour 1 and 2 of 3; tin 2: empty. 1 and 5 are apart. */
    private static SweetWraps threeTins() {
        SweetWraps x = Given.slowWithTins(1);
        Given.wrap(x, 0, 0, 2);
        x.ship(0);
        x.tin();
        x.tin();
        Given.wrap(x, 0, 1, 3);
        Given.wrap(x, 1, 3, 2);
        x.apart(1, 5);
        return x;
    }

    private static void tin() {
        SweetWraps x = threeTins();
        int[][] due = {{2, 1, 1, 0}, {5, 0, 10, 63 - 32}, {0, 0, 0, 63}};
        Check.says("Promise 11", "Returns something about a tin.");
        for (int tin = 0; tin < 3; tin++) {
            for (int what = 0; what < 4; what++) {
                Check.due("ofTin(" + tin + ", " + what + ")", x.ofTin(tin, what), due[tin][what]);
            }
        }
        Check.says("Promise 11", "- `what`: 0 its sweets, 1 whether it is shipped (1 or 0), 2 its flavours, as a set,");
        Given.wrap(x, 2, 0, 4);
        Check.due("four more", x.ofTin(1, 0), 9);
        Check.due("a flavour more", x.ofTin(1, 2), 11);
        Check.due("open", x.ofTin(1, 1), 0);
        x.ship(1);
        Check.due("shipped", x.ofTin(1, 1), 1);
        Check.due("with its sweets", x.ofTin(1, 0), 9);
        Check.due("and flavours", x.ofTin(1, 2), 11);
        takenFlavours();
        Check.says("Promise 11", "Returns the number;");
        x = Given.slowWithTins(16);
        x.set(SweetWraps.ROOM, 1);
        for (int tin = 0; tin < 16; tin++) Given.wrap(x, 0, tin % 6, 1);
        for (int tin = 0; tin < 16; tin++) {
            Check.due("sweets", x.ofTin(tin, 0), 1);
            Check.due("flavours", x.ofTin(tin, 2), 1 << tin % 6);
        }
        Check.says("Promise 11", "NO_SUCH if there is no such tin;");
        Check.due("tin 16 of sixteen", x.ofTin(16, 0), -1);
        x = threeTins();
        for (int what = 0; what < 4; what++) {
            for (int tin = 3; tin < 17; tin++) Check.due("not come yet", x.ofTin(tin, what), -1);
            for (int tin : Given.FAR_OUT) Check.due("far out", x.ofTin(tin, what), -1);
        }
        Check.says("Promise 11", "BAD_VALUE if what is out of range.");
        for (int tin = 0; tin < 3; tin++) {
            Check.due("4", x.ofTin(tin, 4), -2);
            for (int what : Given.FAR_OUT) Check.due("far out", x.ofTin(tin, what), -2);
        }
    }

    private static void takenFlavours() {
        Check.says("Promise 11", "3 flavours that it takes now, as a set (empty if it is shipped, or full)");
        SweetWraps x = threeTins();
        Check.due("shipped, though not full", x.ofTin(0, 3), 0);
        Check.due("all but 5, which is apart from 1", x.ofTin(1, 3), 31);
        x.apart(3, 1);
        Check.due("3 is in it, so they can't be apart", x.ofTin(1, 3), 31);
        x.apart(3, 2);
        x.apart(3, 4);
        Check.due("nor what is apart from 3", x.ofTin(1, 3), 31 - 4 - 16);
        x.apart(5, 1);
        Check.due("5 is not apart any more", x.ofTin(1, 3), 63 - 4 - 16);
        x.apart(0, 2);
        Check.due("apart from one that is not in it", x.ofTin(1, 3), 63 - 4 - 16);
        x.set(SweetWraps.ROOM, 6);
        Check.due("one fewer than ROOM", x.ofTin(1, 3), 63 - 4 - 16);
        x.set(SweetWraps.ROOM, 5);
        Check.due("full", x.ofTin(1, 3), 0);
        x.set(SweetWraps.ROOM, 4);
        Check.due("more than full", x.ofTin(1, 3), 0);
        Check.due("an empty one is not", x.ofTin(2, 3), 63);
    }

    private static void inTin() {
        Check.says("Promise 12", "Returns how many sweets of a flavour a tin has.");
        SweetWraps x = threeTins();
        int[][] due = {{2, 0, 0, 0, 0, 0}, {0, 3, 0, 2, 0, 0}, {0, 0, 0, 0, 0, 0}};
        for (int tin = 0; tin < 3; tin++) {
            for (int flavour = 0; flavour < 6; flavour++) {
                Check.due("inTin(" + tin + ", " + flavour + ")", x.inTin(tin, flavour), due[tin][flavour]);
            }
        }
        Check.says("Promise 12", "Returns how many;");
        x = Given.slowWithTins(1);
        x.set(SweetWraps.ROOM, 99);
        for (int lane = 0; lane < 2; lane++) Given.wrap(x, lane, 5, 48);
        Check.due("96 of 99", x.inTin(0, 5), 96);
        Given.wrap(x, 2, 0, 3);
        Check.due("96 of 99 still", x.inTin(0, 5), 96);
        Check.due("3 of 99", x.inTin(0, 0), 3);
        Check.says("Promise 12", "NO_SUCH if there is no such tin or flavour.");
        x = threeTins();
        for (int i = 0; i < 3; i++) Check.due("flavour 6", x.inTin(i, 6), -1);
        for (int tin = 3; tin < 17; tin++) Check.due("not come yet", x.inTin(tin, 0), -1);
        for (int wrong : Given.FAR_OUT) {
            Check.due("far out tin", x.inTin(wrong, 0), -1);
            Check.due("far out flavour", x.inTin(1, wrong), -1);
            Check.due("far out both", x.inTin(wrong, wrong), -1);
        }
        Check.due("no tin", new SweetWraps().inTin(0, 0), -1);
    }

    // ---- promise 13

    private static void flavour() {
        SweetWraps x = threeTins();
        Check.says("Promise 13", "Returns something about a flavour.");
        dueFlavours(x, new int[][] {{0, 0, 2}, {0, 3, 0}, {0, 0, 0}, {0, 2, 0}, {0, 0, 0}, {0, 0, 0}});
        x.apart(0, 4);
        x.apart(0, 2);
        Check.says("Promise 13", "- `what`: 0 sweets in hoppers, 1 in open tins, 2 in shipped ones,");
        x.heap(0, 1, 20);
        x.heap(0, 2, 7);
        x.heap(0, 1, 3);
        x.heap(3, 1, 100);
        x.heap(3, 0, 9);
        int[][] due = {{9, 0, 2}, {123, 3, 0}, {7, 0, 0}, {0, 2, 0}, {0, 0, 0}, {0, 0, 0}};
        dueFlavours(x, due);
        x.ship(1);
        x.undo();
        dueFlavours(x, due);
        x.ship(1);
        due[1][2] = 3;
        due[1][1] = 0;
        due[3][2] = 2;
        due[3][1] = 0;
        dueFlavours(x, due);
        Check.says("Promise 13", "Returns the number;");
        int[] apart = {16 + 4, 32, 1, 0, 1, 2};
        for (int flavour = 0; flavour < 6; flavour++) Check.due("apart from it", x.flavour(flavour, 3), apart[flavour]);
        Check.says("Promise 13", "3 flavours that are kept apart from it, as a set");
        x.apart(0, 4);
        Check.due("one less", x.flavour(0, 3), 4);
        Check.due("none", x.flavour(4, 3), 0);
        Check.says("Promise 13", "NO_SUCH if there is no such flavour;");
        for (int what = 0; what < 4; what++) {
            Check.due("flavour 6", x.flavour(6, what), -1);
            for (int flavour : Given.FAR_OUT) Check.due("far out", x.flavour(flavour, what), -1);
        }
        Check.says("Promise 13", "BAD_VALUE if what is out of range.");
        for (int flavour = 0; flavour < 6; flavour++) {
            Check.due("4", x.flavour(flavour, 4), -2);
            for (int what : Given.FAR_OUT) Check.due("far out", x.flavour(flavour, what), -2);
        }
    }

    private static void dueFlavours(SweetWraps x, int[][] due) {
        for (int flavour = 0; flavour < 6; flavour++) {
            for (int what = 0; what < 3; what++) {
                Check.due("flavour(" + flavour + ", " + what + ")", x.flavour(flavour, what), due[flavour][what]);
            }
        }
    }

    // ---- promise 14

    /** Tins with so many sweets, each of a flavour of its own, up to six of them. */
    private static SweetWraps tinsWith(int... sweets) {
        SweetWraps x = Given.slowWithTins(sweets.length);
        for (int flavour = 0; flavour < sweets.length; flavour++) {
            for (int other = 0; other < flavour; other++) x.apart(flavour, other);
        }
        for (int tin = 0; tin < sweets.length; tin++) {
            if (sweets[tin] > 0) Given.wrap(x, tin % 4, tin, sweets[tin]);
        }
        return x;
    }

    private static void dueRanks(SweetWraps x, boolean byRoom, int... due) {
        for (int rank = 0; rank < due.length; rank++) {
            int got = byRoom ? x.byRoom(rank) : x.byCount(rank);
            Check.due((byRoom ? "byRoom(" : "byCount(") + rank + ")", got, due[rank]);
        }
        for (int rank = due.length; rank < 20; rank++) {
            Check.due("rank " + rank + " of " + due.length, byRoom ? x.byRoom(rank) : x.byCount(rank), -1);
        }
    }

    private static void byRoom() {
        Check.says("Promise 14", "Returns an open tin by room: with the most sweets first, of as full ones the lower one.");
        dueRanks(tinsWith(1, 5, 3, 4, 2), true, 1, 3, 2, 4, 0);
        dueRanks(tinsWith(2, 3, 2, 3, 2, 3), true, 1, 3, 5, 0, 2, 4);
        dueRanks(tinsWith(1, 1, 1), true, 0, 1, 2);
        dueRanks(Given.slowWithTins(16), true, 0, 1, 2, 3, 4, 5, 6, 7, 8, 9, 10, 11, 12, 13, 14, 15);
        SweetWraps x = tinsWith(2, 3, 2, 3, 3, 0);
        x.ship(3);
        dueRanks(x, true, 1, 4, 0, 2, 5);
        x.ship(1);
        x.ship(0);
        dueRanks(x, true, 4, 2, 5);
        x = tinsWith(3, 5, 4, 0, 4);
        x.set(SweetWraps.ROOM, 4);
        dueRanks(x, true, 1, 2, 3, 0, 4);
        x.set(SweetWraps.ROOM, 1);
        dueRanks(x, true, 1, 2, 3, 0, 4);
        x = tinsWith(12, 3, 11);
        Check.says("Promise 14", "- `rank`: 0 for the first one");
        Check.due("a full one is first", x.byRoom(0), 0);
        Check.says("Promise 14", "Returns the tin;");
        Check.due("the next one", x.byRoom(1), 2);
        Check.due("the last one", x.byRoom(2), 1);
        Check.says("Promise 14", "NO_SUCH if there are not so many.");
        Check.due("a fourth", x.byRoom(3), -1);
        for (int rank : Given.FAR_OUT) Check.due("far out", x.byRoom(rank), -1);
        for (int tin = 0; tin < 3; tin++) {
            x.ship(tin);
            Check.due("one less", x.byRoom(2 - tin), -1);
        }
        dueRanks(x, true);
        dueRanks(new SweetWraps(), true);
    }

    // ---- promise 15

    private static void byCount() {
        Check.says("Promise 15", "Returns a flavour by its sweets in all tins, open or shipped: the most first, "
                + "of as many the lower one; only flavours with a sweet there.");
        dueRanks(tinsWith(1, 5, 3, 4, 2), false, 1, 3, 2, 4, 0);
        dueRanks(tinsWith(2, 3, 2, 3, 2, 3), false, 1, 3, 5, 0, 2, 4);
        dueRanks(tinsWith(0, 1, 0, 1, 0, 0), false, 1, 3);
        dueRanks(tinsWith(0, 0, 0, 0, 0, 1), false, 5);
        SweetWraps x = tinsWith(2, 3, 2, 3, 0, 3);
        x.ship(3);
        x.ship(0);
        dueRanks(x, false, 1, 3, 5, 0, 2);
        x.heap(0, 4, 200);
        x.heap(1, 2, 200);
        dueRanks(x, false, 1, 3, 5, 0, 2);
        x.tin();
        x.heap(2, 0, 2);
        x.foil(2, 6);
        Check.due("two more of 0", x.run(2), 2);
        dueRanks(x, false, 0, 1, 3, 5, 2);
        Check.says("Promise 15", "- `rank`: 0 for the first one");
        Check.due("open and shipped ones, together", x.byCount(0), 0);
        Check.says("Promise 15", "Returns the flavour;");
        Check.due("the last one", x.byCount(4), 2);
        Check.says("Promise 15", "NO_SUCH if there are not so many.");
        for (int rank : Given.FAR_OUT) Check.due("far out", x.byCount(rank), -1);
        dueRanks(tinsWith(1, 1, 1, 1, 1, 1), false, 0, 1, 2, 3, 4, 5);
        dueRanks(Given.slowWithTins(16), false);
        dueRanks(new SweetWraps(), false);
    }

    // ---- promise 16

    private static void count() {
        Check.says("Promise 16", "Returns a number.");
        SweetWraps x = laneAtWork();
        int[] due = {8, 1, 1, 0, 6, 6, 0, 20, 24, 6, 13, 1, 4, 12, 1, 0, 6};
        for (int what = 0; what < 17; what++) Check.due("count(" + what + ")", x.count(what), due[what]);
        countOfTins();
        countOfSweets();
        countOfFoil();
        countOfLanes();
        countOfSettings();
        countOfChanges();
        Check.says("Promise 16", "BAD_VALUE if what is out of range.");
        Check.due("17", x.count(17), -2);
        for (int what : Given.FAR_OUT) Check.due("far out", x.count(what), -2);
    }

    private static void countOfTins() {
        Check.says("Promise 16", "- `what`: 0 ticks so far, 1 tins so far, 2 open ones, 3 shipped ones, as sets,");
        SweetWraps x = tinsWith(1, 1, 1, 1, 1, 1);
        Check.due("ticks", x.count(0), 6);
        x.run(99);
        Check.due("ticks", x.count(0), 105);
        Check.due("tins", x.count(1), 6);
        Check.due("open ones", x.count(2), 63);
        Check.due("shipped ones", x.count(3), 0);
        x.ship(1);
        x.ship(4);
        Check.due("tins so far", x.count(1), 6);
        Check.due("open ones", x.count(2), 63 - 18);
        Check.due("shipped ones", x.count(3), 18);
        for (int tin = 6; tin < 16; tin++) x.tin();
        Check.due("tins so far", x.count(1), 16);
        Check.due("open ones", x.count(2), 65535 - 18);
    }

    private static void countOfSweets() {
        Check.says("Promise 16", "4 sweets in hoppers, 5 wrapped so far, 6 sweets shipped so far,");
        SweetWraps x = Given.slowWithTins(2);
        for (int lane = 0; lane < 4; lane++) {
            x.heap(lane, lane, 100 + lane);
            x.heap(lane, 5, 1);
        }
        Check.due("in hoppers", x.count(4), 410);
        Check.due("wrapped", x.count(5), 0);
        for (int lane = 0; lane < 4; lane++) x.foil(lane, 9);
        x.run(2);
        Check.due("in hoppers", x.count(4), 402);
        Check.due("wrapped", x.count(5), 8);
        Check.due("shipped", x.count(6), 0);
        x.ship(0);
        Check.due("shipped", x.count(6), 8);
        x.run(2);
        Check.due("wrapped so far, in all runs", x.count(5), 12);
        Check.due("shipped as before", x.count(6), 8);
        x.ship(1);
        Check.due("shipped so far, in all tins", x.count(6), 12);
        Check.due("wrapped as before", x.count(5), 12);
    }

    private static void countOfFoil() {
        Check.says("Promise 16", "7 foil at the lanes, 8 foil that was pulled so far, "
                + "9 foil that was wasted by tears so far,");
        SweetWraps x = new SweetWraps();
        x.set(SweetWraps.SPEED, 1);
        x.set(SweetWraps.TEAR, 4);
        for (int tin = 0; tin < 3; tin++) x.tin();
        for (int lane = 0; lane < 4; lane++) x.foil(lane, 100 + lane);
        Check.due("at the lanes", x.count(7), 406);
        x.heap(1, 0, 50);
        x.heap(3, 1, 50);
        x.run(5);
        Check.due("at the lanes", x.count(7), 406 - 30);
        Check.due("pulled, with what was torn", x.count(8), 30);
        Check.due("wasted", x.count(9), 6);
        x.set(SweetWraps.TWIST, 2);
        x.run(3);
        Check.due("at the lanes", x.count(7), 406 - 30 - 24);
        Check.due("pulled, by the twists of the time", x.count(8), 54);
        Check.due("wasted, by the twists of the time", x.count(9), 6 + 8);
        x.foil(0, 10);
        Check.due("what comes is not pulled", x.count(8), 54);
    }

    private static void countOfLanes() {
        Check.says("Promise 16", "10 lanes whose next try would fail, as a set,");
        SweetWraps x = Given.slowWithTins(1);
        for (int lanes = 0; lanes < 16; lanes++) {
            SweetWraps y = Given.slowWithTins(1);
            for (int lane = 0; lane < 4; lane++) {
                y.heap(lane, lane, 1);
                if ((lanes >> lane & 1) == 0) y.foil(lane, 3);
            }
            Check.due("lanes without foil", y.count(10), lanes);
            y.set(SweetWraps.TWIST, 2);
            Check.due("not enough for two twists", y.count(10), 15);
        }
        x.heap(0, 0, 1);
        x.heap(2, 2, 1);
        for (int lane = 0; lane < 4; lane++) x.foil(lane, 9);
        Check.due("two hoppers are empty", x.count(10), 10);
        x.apart(0, 1);
        x.heap(3, 1, 1);
        Check.due("one hopper is empty", x.count(10), 2);
        Check.due("lane 0 is first, and takes the tin", x.run(1), 2);
        Check.due("no tin takes the sweet of lane 3", x.count(10), 15);
    }

    private static void countOfSettings() {
        Check.says("Promise 16", "11 to 14 the settings,");
        SweetWraps x = new SweetWraps();
        for (int setting = 0; setting < 4; setting++) {
            Check.due("first value", x.count(11 + setting), Given.FIRST[setting]);
        }
        int[] values = {8, 41, 77, 2};
        for (int setting = 0; setting < 4; setting++) x.set(setting, values[setting]);
        for (int setting = 0; setting < 4; setting++) Check.due("value", x.count(11 + setting), values[setting]);
    }

    private static void countOfChanges() {
        Check.says("Promise 16", "15 the length of the pad, 16 how many changes can be undone");
        SweetWraps x = new SweetWraps();
        x.put('t');
        Check.due("length", x.count(15), 1);
        x.put(0x3B743B74);
        Check.due("length", x.count(15), 5);
        Check.due("changes", x.count(16), 0);
        Check.says("Promise 16", "Returns the number;");
        for (int change = 1; change <= 9; change++) {
            x.foil(0, 1);
            Check.due("changes", x.count(16), Math.min(change, 6));
        }
        for (int left = 5; left >= 0; left--) {
            x.undo();
            Check.due("changes", x.count(16), left);
        }
        Check.due("length", x.count(15), 5);
        x.carryOut();
        Check.due("length", x.count(15), 0);
        Check.due("changes", x.count(16), 1);
    }
}
