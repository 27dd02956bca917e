/** Promises 1 to 8, and the tick: what changes the machine, and what is refused. */
public final class ChangesTest {
    public static void main(String[] args) {
        aNewObject();
        set();
        heap();
        foil();
        tin();
        ship();
        apart();
        run();
        reasonsInTheirOrder();
        tearing();
        tryByTry();
        lowestTin();
        Check.finish();
    }

    private static void aNewObject() {
        SweetWraps x = new SweetWraps();
        int[] numbers = {0, 0, 0, 0, 0, 0, 0, 0, 0, 0, 15, 3, 20, 12, 1, 0, 0};
        for (int what = 0; what < numbers.length; what++) {
            Check.due("new: count(" + what + ")", x.count(what), numbers[what]);
        }
        int[] facts = {0, 0, -6, 0, 0, 0, 0, 1};
        for (int lane = 0; lane < 4; lane++) {
            for (int what = 0; what < facts.length; what++) {
                Check.due("new: of(" + lane + ", " + what + ")", x.of(lane, what), facts[what]);
            }
        }
        for (int flavour = 0; flavour < 6; flavour++) {
            Check.due("new: flavour(f, 3)", x.flavour(flavour, 3), 0);
        }
        Check.due("new: fault()", x.fault(), 0);
        Check.due("new: undo()", x.undo(), -5);
        Check.due("new: restore(0)", x.restore(0), -5);
        Check.due("new: restore(1)", x.restore(1), -5);
        SweetWraps other = new SweetWraps();
        other.tin();
        Check.due("objects share nothing", x.count(1), 0);
    }

    private static void set() {
        int[] least = {1, 4, 1, 1};
        int[] most = {9, 60, 99, 2};
        int[] first = {3, 20, 12, 1};
        for (int setting = 0; setting < 4; setting++) {
            SweetWraps x = new SweetWraps();
            Check.due("set below", x.set(setting, least[setting] - 1), -2);
            Check.due("set above", x.set(setting, most[setting] + 1), -2);
            Check.due("set far below", x.set(setting, Integer.MIN_VALUE), -2);
            Check.due("set far above", x.set(setting, Integer.MAX_VALUE), -2);
            Check.due("errors record nothing", x.count(16), 0);
            Check.due("set least", x.set(setting, least[setting]), first[setting]);
            Check.due("set most", x.set(setting, most[setting]), least[setting]);
            Check.due("set the same", x.set(setting, most[setting]), most[setting]);
            Check.due("setting is", x.count(11 + setting), most[setting]);
            Check.due("sets are changes", x.count(16), 3);
        }
        SweetWraps x = new SweetWraps();
        Check.due("set(-1, 5)", x.set(-1, 5), -2);
        Check.due("set(4, 5)", x.set(4, 5), -2);
        Check.due("set(min, 5)", x.set(Integer.MIN_VALUE, 5), -2);
        Check.due("set(max, 5)", x.set(Integer.MAX_VALUE, 5), -2);
    }

    private static void heap() {
        SweetWraps x = new SweetWraps();
        Check.due("heap(-1, 9, 0)", x.heap(-1, 9, 0), -1);
        Check.due("heap(4, 0, 0)", x.heap(4, 0, 0), -1);
        Check.due("heap(0, -1, 0)", x.heap(0, -1, 0), -1);
        Check.due("heap(0, 6, 0)", x.heap(0, 6, 0), -1);
        Check.due("heap(0, 0, 0)", x.heap(0, 0, 0), -2);
        Check.due("heap(0, 0, 201)", x.heap(0, 0, 201), -2);
        Check.due("heap(0, 0, min)", x.heap(0, 0, Integer.MIN_VALUE), -2);
        Check.due("heap(0, 0, max)", x.heap(0, 0, Integer.MAX_VALUE), -2);
        Check.due("errors change nothing", x.count(4) + x.count(16), 0);
        Check.due("heap(3, 5, 200)", x.heap(3, 5, 200), 200);
        Check.due("heap(3, 5, 1)", x.heap(3, 5, 1), 201);
        Check.due("the same flavour joins", x.of(3, 1), 1);
        Check.due("heap(3, 0, 1)", x.heap(3, 0, 1), 202);
        Check.due("heap(3, 5, 1) comes behind", x.heap(3, 5, 1), 203);
        Check.due("another one between", x.of(3, 1), 3);
        for (int flavour = 0; flavour < 3; flavour++) x.heap(3, flavour, 1);
        Check.due("six heaps", x.of(3, 1), 6);
        Check.due("a seventh heap", x.heap(3, 0, 1), -4);
        Check.due("into the sixth", x.heap(3, 2, 4), 210);
        Check.due("no more by the error", x.of(3, 0), 210);
        hopperThatIsFull();
    }

    private static void hopperThatIsFull() {
        SweetWraps x = new SweetWraps();
        for (int i = 0; i < 4; i++) x.heap(0, i % 2, 200);
        x.heap(0, 1, 198);
        Check.due("998 sweets", x.of(0, 0), 998);
        Check.due("1000 sweets", x.heap(0, 1, 2), -4);
        Check.due("1000 sweets by a new heap", x.heap(0, 3, 2), -4);
        Check.due("no heap by the error", x.of(0, 1), 4);
        Check.due("999 sweets", x.heap(0, 3, 1), 999);
        Check.due("another lane", x.heap(1, 3, 2), 2);
    }

    private static void foil() {
        SweetWraps x = new SweetWraps();
        Check.due("foil(-1, 0)", x.foil(-1, 0), -1);
        Check.due("foil(4, 0)", x.foil(4, 0), -1);
        Check.due("foil(0, 0)", x.foil(0, 0), -2);
        Check.due("foil(0, 1000)", x.foil(0, 1000), -2);
        Check.due("foil(0, min)", x.foil(0, Integer.MIN_VALUE), -2);
        Check.due("foil(0, max)", x.foil(0, Integer.MAX_VALUE), -2);
        for (int i = 1; i <= 10; i++) Check.due("foil(3, 999)", x.foil(3, 999), 999 * i);
        Check.due("10000", x.foil(3, 10), -4);
        Check.due("9999", x.foil(3, 9), 9999);
        Check.due("one more", x.foil(3, 1), -4);
        Check.due("another lane", x.foil(0, 1), 1);
        Check.due("all foil", x.count(7), 10000);
    }

    private static void tin() {
        SweetWraps x = new SweetWraps();
        for (int tin = 0; tin < 16; tin++) Check.due("tin()", x.tin(), tin);
        Check.due("a seventeenth tin", x.tin(), -4);
        Check.due("sixteen", x.count(1), 16);
        Check.due("all open", x.count(2), 65535);
        Check.due("undo is of the sixteenth", x.undo(), 5);
        Check.due("fifteen", x.count(1), 15);
    }

    private static void ship() {
        SweetWraps x = new SweetWraps();
        Check.due("ship(-1)", x.ship(-1), -1);
        Check.due("ship(0) without a tin", x.ship(0), -1);
        Check.due("ship(16)", x.ship(16), -1);
        Check.due("ship(max)", x.ship(Integer.MAX_VALUE), -1);
        x.tin();
        x.tin();
        Check.due("ship of an empty one", x.ship(1), -5);
        x.heap(0, 0, 5);
        x.foil(0, 9);
        Check.due("run(1)", x.run(1), 3);
        Check.due("ship(0)", x.ship(0), 3);
        Check.due("ship(0) again", x.ship(0), -5);
        Check.due("ship(2)", x.ship(2), -1);
        x.foil(0, 9);
        Check.due("a shipped tin takes nothing", x.run(1), 2);
        Check.due("the next one does", x.ofTin(1, 0), 2);
        Check.due("it keeps what it has", x.ofTin(0, 0), 3);
    }

    private static void apart() {
        SweetWraps x = new SweetWraps();
        Check.due("apart(-1, -1)", x.apart(-1, -1), -1);
        Check.due("apart(6, 6)", x.apart(6, 6), -1);
        Check.due("apart(0, 6)", x.apart(0, 6), -1);
        Check.due("apart(0, max)", x.apart(0, Integer.MAX_VALUE), -1);
        Check.due("apart(5, 5)", x.apart(5, 5), -2);
        Check.due("apart(5, 0)", x.apart(5, 0), 1);
        Check.due("both ways", x.flavour(0, 3) * 100 + x.flavour(5, 3), 3201);
        Check.due("not any more", x.apart(0, 5), 0);
        Check.due("neither way", x.flavour(0, 3) + x.flavour(5, 3), 0);
        x.tin();
        x.heap(0, 0, 1);
        x.heap(0, 5, 1);
        x.foil(0, 9);
        x.run(1);
        Check.due("an open tin has both", x.apart(0, 5), -5);
        Check.due("one of them is free", x.apart(0, 4), 1);
        Check.due("ship(0)", x.ship(0), 2);
        Check.due("a shipped one does not matter", x.apart(0, 5), 1);
        Check.due("three apart", x.flavour(0, 3), 48);
    }

    private static void run() {
        SweetWraps x = new SweetWraps();
        Check.due("run(0)", x.run(0), -2);
        Check.due("run(100)", x.run(100), -2);
        Check.due("run(min)", x.run(Integer.MIN_VALUE), -2);
        Check.due("run(max)", x.run(Integer.MAX_VALUE), -2);
        for (int i = 0; i < 101; i++) Check.due("run(99)", x.run(99), 0);
        Check.due("9999 ticks", x.count(0), 9999);
        Check.due("one more", x.run(1), -5);
        Check.due("one more, wrong", x.run(100), -2);
        Check.due("undo()", x.undo(), 5);
        Check.due("9900 ticks", x.count(0), 9900);
        Check.due("run(98)", x.run(98), 0);
        Check.due("run(2)", x.run(2), -5);
        Check.due("run(1)", x.run(1), 0);
        x.tin();
        x.heap(0, 0, 9);
        x.foil(0, 99);
        Check.due("no tick is left", x.run(1), -5);
        Check.due("what-ifs don't mind: stands", x.stands(0, 0), 4);
        Check.due("what-ifs don't mind: bestSpeed", x.bestSpeed(50, 1), 9);
        Check.due("what-ifs don't mind: ifApart", x.ifApart(0, 1, 2), 5);
        Check.due("9999 ticks still", x.count(0), 9999);
    }

    private static void reasonsInTheirOrder() {
        SweetWraps x = new SweetWraps();
        Check.due("empty hopper first", x.of(0, 7), 1);
        x.heap(0, 2, 1);
        Check.due("then no tin", x.of(0, 7), 2);
        x.tin();
        Check.due("then the foil", x.of(0, 7), 3);
        x.foil(0, 2);
        Check.due("2 are too little", x.of(0, 7), 3);
        x.foil(0, 1);
        Check.due("3 are enough", x.of(0, 7), 0);
        x.set(SweetWraps.TWIST, 2);
        Check.due("not for two twists", x.of(0, 7), 3);
        x.foil(0, 1);
        Check.due("4 are enough for them", x.of(0, 7), 0);
        Check.due("run(1)", x.run(1), 1);
        Check.due("4 pulled", x.count(8), 4);
        x.set(SweetWraps.ROOM, 1);
        x.heap(0, 2, 1);
        Check.due("the tin is full", x.of(0, 7), 2);
    }

    private static void tearing() {
        int[] periods = {20, 10, 6, 5, 4, 3, 2, 2, 2};
        for (int speed = 1; speed <= 9; speed++) {
            SweetWraps x = machineWithTins(3);
            x.set(SweetWraps.SPEED, speed);
            x.run(20 / speed);
            int pulls = 20 / speed * speed;
            Check.due("pulls by speed " + speed, x.of(0, 4), pulls);
            Check.due("torn by speed " + speed, x.of(0, 5), pulls / periods[speed - 1]);
            Check.due("wrapped by speed " + speed, x.of(0, 6), pulls - pulls / periods[speed - 1]);
            Check.due("wasted by speed " + speed, x.count(9), pulls / periods[speed - 1] * 3);
        }
        SweetWraps x = machineWithTins(3);
        x.set(SweetWraps.TEAR, 4);
        x.set(SweetWraps.SPEED, 9);
        Check.due("every second one, at least", x.run(2), 9);
        Check.due("nine are torn", x.of(0, 5), 9);
        Check.due("the sweets stay", x.of(0, 0), 191);
    }

    private static SweetWraps machineWithTins(int tins) {
        SweetWraps x = new SweetWraps();
        for (int tin = 0; tin < tins; tin++) x.tin();
        x.heap(0, 1, 200);
        x.foil(0, 999);
        return x;
    }

    private static void tryByTry() {
        SweetWraps x = new SweetWraps();
        x.tin();
        x.set(SweetWraps.ROOM, 4);
        x.heap(0, 0, 2);
        x.heap(1, 1, 9);
        x.foil(0, 99);
        x.foil(1, 99);
        Check.due("lane 0 first, all its tries", x.run(1), 4);
        Check.due("two of lane 0", x.inTin(0, 0), 2);
        Check.due("two of lane 1", x.inTin(0, 1), 2);
        Check.due("a pull for each, no more", x.of(0, 4) * 10 + x.of(1, 4), 22);
        Check.due("the empty heap is gone", x.of(0, 1), 0);
        Check.due("a lane that stands pulls no foil", x.run(9), 0);
        Check.due("ticks are counted all the same", x.count(0), 10);
        Check.due("foil is left", x.count(7), 186);
    }

    private static void lowestTin() {
        SweetWraps x = new SweetWraps();
        x.tin();
        x.tin();
        x.apart(0, 1);
        x.heap(0, 0, 1);
        x.heap(0, 1, 1);
        x.heap(0, 2, 1);
        x.foil(0, 99);
        Check.due("run(1)", x.run(1), 3);
        Check.due("0 and 2 together", x.ofTin(0, 2), 5);
        Check.due("1 apart", x.ofTin(1, 2), 2);
        x.heap(1, 0, 20);
        x.foil(1, 99);
        x.set(SweetWraps.SPEED, 9);
        x.set(SweetWraps.TEAR, 60);
        x.run(3);
        Check.due("up to the room", x.ofTin(0, 0), 12);
        Check.due("never to the one apart", x.ofTin(1, 0), 1);
        Check.due("the lane stands, no tin", x.of(1, 7), 2);
    }
}
