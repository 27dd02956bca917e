/** Each sentence of the document on calls, errors, settings, lanes, tins, flavours and ticks. */
public final class SentencesOfTermsTest {
    public static void main(String[] args) {
        conventions();
        settings();
        lanesTinsFlavours();
        ticks();
        Check.finish();
    }

    // ---- conventions

    private static void conventions() {
        calls512();
        whatIfsDoNotChange();
        callsThatAreNoChanges();
        changes();
        constants();
        errorCodes();
        firstError();
        firstErrorAtBounds();
        errorsChangeNothing();
        noneIsNoError();
        numberedFromZero();
        roundedDown();
        masks();
    }

    private static void calls512() {
        Check.says("What it is", "An object is used for at most 512 calls after it has been made;");
        SweetWraps x = new SweetWraps();
        int room = 12;
        for (int call = 1; call <= 510; call++) {
            int next = call % 99 + 1;
            Check.due("call " + call, x.set(SweetWraps.ROOM, next), room);
            room = next;
        }
        Check.due("call 511", x.undo(), 5);
        Check.due("call 512", x.count(13), 509 % 99 + 1);
    }

    private static void changes() {
        Check.says("Terms", "Ahead of the calls `set`, `heap`, `foil`, `tin`, `ship`, `apart`, `run` the interface says: "
                + "---- changes.");
        SweetWraps x = Given.slowWithTins(1);
        Given.wrap(x, 0, 0, 1);
        x.save(0);
        x.restore(0);
        x.undo();
        for (int change = 0; change < 7; change++) {
            int before = x.count(16);
            Check.due("change " + change + " is none that fails", change(x, change) >= 0 ? 1 : 0, 1);
            Check.due("change " + change, x.count(16), before + 1);
            x.undo();
        }
    }

    private static int change(SweetWraps x, int change) {
        switch (change) {
            case 0: return x.set(SweetWraps.ROOM, 9);
            case 1: return x.heap(0, 0, 9);
            case 2: return x.foil(0, 9);
            case 3: return x.tin();
            case 4: return x.ship(0);
            case 5: return x.apart(0, 1);
            default: return x.run(1);
        }
    }

    private static void callsThatAreNoChanges() {
        Check.says("Terms", "Ahead of the calls `of`, `ofHeap`, `ofTin`, `inTin`, `flavour`, `byRoom`, `byCount`, "
                + "`count` the interface says: ---- what there is.");
        SweetWraps x = Given.midway();
        for (int what = 0; what < 8; what++) x.of(what % 4, what);
        for (int what = 0; what < 2; what++) x.ofHeap(0, 0, what);
        for (int what = 0; what < 4; what++) x.ofTin(0, what);
        x.inTin(0, 1);
        for (int what = 0; what < 4; what++) x.flavour(1, what);
        x.byRoom(0);
        x.byCount(0);
        for (int what = 0; what < 17; what++) x.count(what);
        Facts.due("after the questions", x, Given.midway());

        Check.says("Terms", "Ahead of the calls `put`, `wipe`, `fault`, `carryOut` the interface says: ---- texts.");
        x = Given.midway();
        x.put(Check.packed("t;r9"));
        x.fault();
        x.wipe();
        Facts.due("after put, fault and wipe", x, Given.midway());

        Check.says("Terms", "Ahead of the calls `undo`, `save`, `restore` the interface says: ---- undo, saving.");
        x = Given.midway();
        x.save(0);
        x.save(1);
        Facts.due("after save", x, Given.midway());
    }

    private static void whatIfsDoNotChange() {
        Check.says("Terms", "Ahead of the calls `stands`, `bestSpeed`, `ifApart`, `tinsFor` the interface says: "
                + "---- what if; nothing changes (the bound of ticks does not matter).");
        SweetWraps x = Given.midway();
        for (int lane = 0; lane < 4; lane++) x.stands(lane, lane % 2);
        x.bestSpeed(50, 0);
        x.bestSpeed(1, 1);
        x.ifApart(1, 2, 50);
        x.ifApart(3, 5, 1);
        x.tinsFor();
        Facts.due("after the what-ifs", x, Given.midway());

        x = Given.slow();
        for (int i = 0; i < 5; i++) Given.letGo1980(x);
        x.run(50);
        for (int i = 0; i < 3; i++) x.tin();
        x.heap(0, 4, 60);
        x.foil(0, 900);
        Check.due("49 ticks are left", x.count(0), 9950);
        Check.due("stands when three tins are full", x.stands(0, 0), 36 + 1);
        x.set(SweetWraps.ROOM, 99);
        Check.due("stands when 60 are wrapped, with a tear", x.stands(0, 0), 62);
        Check.due("bestSpeed beyond the bound, sweets", x.bestSpeed(50, 1), 60);
        Check.due("ifApart beyond the bound", x.ifApart(0, 1, 50), 50);
        x.run(49);
        Check.due("9999 ticks", x.run(1), SweetWraps.NOT_POSSIBLE);
        Check.due("stands at the bound", x.stands(0, 0), 13);
        Check.due("bestSpeed at the bound", x.bestSpeed(10, 1), 11);
        Check.due("ifApart at the bound", x.ifApart(4, 1, 10), 10);
        Check.due("9999 ticks still", x.count(0), 9999);
    }

    private static void constants() {
        Check.says("Terms", "The constants: `NO_SUCH = -1, BAD_VALUE = -2, BAD_TEXT = -3, TOO_MANY = -4, "
                + "NOT_POSSIBLE = -5, NONE = -6`: Error codes, and NONE: there is none.");
        Check.due("NO_SUCH", SweetWraps.NO_SUCH, -1);
        Check.due("BAD_VALUE", SweetWraps.BAD_VALUE, -2);
        Check.due("BAD_TEXT", SweetWraps.BAD_TEXT, -3);
        Check.due("TOO_MANY", SweetWraps.TOO_MANY, -4);
        Check.due("NOT_POSSIBLE", SweetWraps.NOT_POSSIBLE, -5);
        Check.due("NONE", SweetWraps.NONE, -6);
        Check.says("Terms", "`SPEED = 0, TEAR = 1, ROOM = 2, TWIST = 3`: Settings.");
        Check.due("SPEED", SweetWraps.SPEED, 0);
        Check.due("TEAR", SweetWraps.TEAR, 1);
        Check.due("ROOM", SweetWraps.ROOM, 2);
        Check.due("TWIST", SweetWraps.TWIST, 3);
    }

    private static void errorCodes() {
        Check.says("Terms", "CONVENTIONS. A method that fails returns one of the error codes NO_SUCH (-1), "
                + "BAD_VALUE (-2), BAD_TEXT (-3), TOO_MANY (-4) and NOT_POSSIBLE (-5);");
        SweetWraps x = new SweetWraps();
        Check.due("ship(0) without a tin", x.ship(0), -1);
        Check.due("run(0)", x.run(0), -2);
        Check.due("carryOut() of an empty pad", x.carryOut(), -3);
        for (int tin = 0; tin < 16; tin++) x.tin();
        Check.due("tin() after 16", x.tin(), -4);
        Check.due("ship(0) of an empty tin", x.ship(0), -5);
    }

    private static void firstError() {
        Check.says("Terms", "it names its errors in the order in which they are checked, and the first one that applies "
                + "is returned.");
        SweetWraps x = new SweetWraps();
        Check.due("heap: lane before many", x.heap(4, 0, 0), -1);
        Check.due("heap: flavour before many", x.heap(0, 6, 201), -1);
        Check.due("foil: lane before length", x.foil(-1, 0), -1);
        Check.due("apart: no such flavours before the same", x.apart(6, 6), -1);
        Check.due("apart: below 0, too", x.apart(-1, -1), -1);
        Check.due("of: lane before what", x.of(4, 8), -1);
        Check.due("ofHeap: lane before what", x.ofHeap(4, 0, 2), -1);
        Check.due("ofHeap: heap before what", x.ofHeap(0, 0, 2), -1);
        Check.due("ofTin: tin before what", x.ofTin(0, 4), -1);
        Check.due("flavour: flavour before what", x.flavour(6, 4), -1);
        Check.due("stands: lane before what", x.stands(4, 2), -1);
        Check.due("ifApart: no such flavours before the same", x.ifApart(6, 6, 1), -1);
        Check.due("ifApart: no such flavour before ticks", x.ifApart(0, -1, 0), -1);
        Check.due("restore: slot before what is saved", x.restore(2), -2);
    }

    private static void firstErrorAtBounds() {
        SweetWraps x = Given.atItsBounds();
        Check.due("heap: lane before six heaps", x.heap(-1, 0, 1), -1);
        Check.due("heap: flavour before six heaps", x.heap(1, 6, 1), -1);
        Check.due("heap: many before six heaps", x.heap(1, 0, 0), -2);
        Check.due("heap: many before 999 sweets", x.heap(2, 4, 201), -2);
        Check.due("foil: length before 9999", x.foil(3, 1000), -2);
        Check.due("apart: the same before what tins have", x.apart(0, 0), -2);
        Check.due("run: ticks before 9999", x.run(100), -2);
        Check.due("run: ticks before 9999", x.run(0), -2);
        Check.due("put: characters before 80", x.put(32), -2);
        Check.due("ship: no such tin", x.ship(16), -1);
    }

    private static void errorsChangeNothing() {
        Check.says("Terms", "A call that returns an error changes nothing.");
        int[] due = {-2, -2, -2, -1, -1, -2, -2, -4, -4, -1, -2, -4, -4, -1, -5, -5, -1, -2, -5, -2, -2, -5, -2, -2,
                -4, -3, -2, -2, -2, -5};
        for (int error = 0; error < due.length; error++) {
            SweetWraps x = Given.atItsBounds();
            Check.due("error " + error, error(x, error), due[error]);
            Facts.due("after error " + error, x, Given.atItsBounds());
        }
        SweetWraps x = Given.atItsBounds();
        for (int error = 0; error < due.length; error++) error(x, error);
        x.restore(0);
        Check.due("nor in the slot: ticks", x.count(0), 7);
        Check.due("nor in the slot: hoppers", x.count(4), 0);
        Check.due("nor in the slot: tins", x.count(1), 16);
        x = new SweetWraps();
        Check.due("undo() of nothing", x.undo(), -5);
        Facts.due("after undo of nothing", x, new SweetWraps());
    }

    private static int error(SweetWraps x, int error) {
        switch (error) {
            case 0: return x.set(4, 1);
            case 1: return x.set(SweetWraps.SPEED, 10);
            case 2: return x.set(SweetWraps.ROOM, 0);
            case 3: return x.heap(4, 0, 1);
            case 4: return x.heap(0, 6, 1);
            case 5: return x.heap(0, 0, 0);
            case 6: return x.heap(0, 0, 201);
            case 7: return x.heap(1, 0, 1);
            case 8: return x.heap(2, 4, 1);
            case 9: return x.foil(4, 1);
            case 10: return x.foil(0, 1000);
            case 11: return x.foil(3, 1);
            case 12: return x.tin();
            case 13: return x.ship(16);
            case 14: return x.ship(0);
            case 15: return x.ship(2);
            case 16: return x.apart(0, 6);
            case 17: return x.apart(3, 3);
            case 18: return x.apart(0, 1);
            case 19: return x.run(0);
            case 20: return x.run(100);
            case 21: return x.run(1);
            case 22: return x.put(0);
            case 23: return x.put(0x7420);
            case 24: return x.put('t');
            case 25: return x.carryOut();
            case 26: return x.save(-1);
            case 27: return x.save(2);
            case 28: return x.restore(2);
            default: return x.restore(1);
        }
    }

    private static void noneIsNoError() {
        Check.says("Terms", "NONE (-6) is not an error; it is returned only if no error applies.");
        SweetWraps x = new SweetWraps();
        Check.due("of an empty hopper", x.of(3, 2), -6);
        Check.due("of no lane", x.of(4, 2), -1);
        x = Given.longRun();
        Check.due("stands for long", x.stands(0, 0), -6);
        Check.due("stands for long, why", x.stands(0, 1), -6);
        Check.due("stands for long, but what is neither", x.stands(0, 2), -2);
        Check.due("stands, but no such lane", x.stands(-1, 0), -1);
    }

    private static void numberedFromZero() {
        Check.says("Terms", "Everything is numbered from 0.");
        SweetWraps x = Given.slow();
        Check.due("the first tin", x.tin(), 0);
        Given.wrap(x, 0, 0, 1);
        x.heap(0, 5, 1);
        Check.due("lane 0", x.of(0, 0), 1);
        Check.due("flavour 0", x.flavour(0, 1), 1);
        Check.due("heap 0", x.ofHeap(0, 0, 0), 5);
        Check.due("tin 0", x.ofTin(0, 0), 1);
        Check.due("rank 0 by room", x.byRoom(0), 0);
        Check.due("rank 0 by count", x.byCount(0), 0);
        Check.due("setting 0", x.set(0, 1), 1);
        Check.due("slot 0", x.save(0), 1);
        Check.due("lane -1", x.of(-1, 0), -1);
        Check.due("the fault is numbered, too", x.fault(), 0);
    }

    private static void roundedDown() {
        Check.says("Terms", "Divisions are rounded down.");
        // 20 / 3, 59 / 9 and 23 / 6 are no whole numbers: pulls 6, 6 and 3 are torn
        dueFirstTear(20, 3, 6);
        dueFirstTear(59, 9, 6);
        dueFirstTear(23, 6, 3);
        dueFirstTear(60, 7, 8);
    }

    /** The first pull of a lane that is torn, by a TEAR and a SPEED. */
    private static void dueFirstTear(int tear, int speed, int due) {
        SweetWraps x = new SweetWraps();
        x.set(SweetWraps.TEAR, tear);
        x.set(SweetWraps.SPEED, speed);
        x.set(SweetWraps.ROOM, 99);
        x.tin();
        x.heap(0, 0, 99);
        int pulls = 0;
        while (pulls < 70 && x.of(0, 5) == 0) {
            x.foil(0, 3);
            x.run(1);
            pulls++;
        }
        Check.due("TEAR " + tear + ", SPEED " + speed + ": first torn pull", pulls, due);
        Check.due("TEAR " + tear + ", SPEED " + speed + ": wrapped before", x.of(0, 6), due - 1);
    }

    private static void masks() {
        Check.says("Terms", "Sets of lanes, flavours and tins are bit masks.");
        SweetWraps x = Given.slowWithTins(16);
        Given.wrap(x, 0, 5, 1);
        Given.wrap(x, 1, 0, 1);
        x.ship(0);
        Check.due("open tins", x.count(2), 65534);
        Check.due("shipped tins", x.count(3), 1);
        Check.due("flavours of a tin", x.ofTin(0, 2), 33);
        Check.due("flavours that a tin takes", x.ofTin(15, 3), 63);
        Check.due("lanes whose next try would fail", x.count(10), 15);
        x.heap(3, 0, 1);
        x.foil(3, 3);
        Check.due("all but lane 3", x.count(10), 7);
        x.apart(5, 0);
        x.apart(5, 4);
        Check.due("flavours apart from 5", x.flavour(5, 3), 17);
        Check.due("flavours apart from 4", x.flavour(4, 3), 32);
    }

    // ---- settings

    private static void settings() {
        speed();
        tear();
        room();
        twist();
    }

    private static void dueRange(int setting) {
        SweetWraps x = new SweetWraps();
        Check.due("first value", x.count(11 + setting), Given.FIRST[setting]);
        Check.due("below the range", x.set(setting, Given.LEAST[setting] - 1), -2);
        Check.due("above the range", x.set(setting, Given.MOST[setting] + 1), -2);
        Check.due("first value still", x.count(11 + setting), Given.FIRST[setting]);
        int value = Given.FIRST[setting];
        for (int next = Given.LEAST[setting]; next <= Given.MOST[setting]; next++) {
            Check.due("within the range", x.set(setting, next), value);
            value = next;
        }
        Check.due("the last one", x.count(11 + setting), Given.MOST[setting]);
    }

    private static void speed() {
        Check.says("Terms", "(In parentheses: range; first value.) SPEED (1 to 9; 3): tries of a lane in a tick;");
        dueRange(SweetWraps.SPEED);
        SweetWraps x = new SweetWraps();
        x.tin();
        x.heap(0, 0, 20);
        x.foil(0, 99);
        Check.due("three tries at first", x.run(1), 3);
        for (int speed = 1; speed <= 9; speed++) {
            x = new SweetWraps();
            x.set(SweetWraps.SPEED, speed);
            x.tin();
            x.heap(2, 0, 20);
            x.foil(2, 99);
            x.run(1);
            Check.due("tries by speed " + speed, x.of(2, 4), speed);
        }
    }

    private static void tear() {
        Check.says("Terms", "TEAR (4 to 60; 20): how seldom foil tears;");
        dueRange(SweetWraps.TEAR);
        dueFirstTear(20, 1, 20);
        dueFirstTear(4, 1, 4);
        dueFirstTear(60, 1, 60);
        dueFirstTear(5, 1, 5);
    }

    private static void room() {
        Check.says("Terms", "ROOM (1 to 99; 12): sweets of a tin;");
        dueRange(SweetWraps.ROOM);
        for (int room : new int[] {1, 2, 12, 98, 99}) {
            SweetWraps x = Given.fastWithTins(2);
            if (room != 12) x.set(SweetWraps.ROOM, room);
            x.heap(0, 0, 200);
            x.foil(0, 999);
            x.run(room / 7 + 1);
            Check.due("a tin holds " + room, x.ofTin(0, 0), room);
            Check.due("the rest comes to the next", x.ofTin(1, 0), x.count(5) - room);
        }
    }

    private static void twist() {
        Check.says("Terms", "TWIST (1 or 2; 1): twists of a wrap.");
        dueRange(SweetWraps.TWIST);
        SweetWraps x = Given.slowWithTins(1);
        x.heap(0, 0, 9);
        x.foil(0, 20);
        x.run(1);
        Check.due("3 for one twist", x.of(0, 3), 17);
        x.set(SweetWraps.TWIST, 2);
        x.run(1);
        Check.due("4 for two", x.of(0, 3), 13);
    }

    // ---- lanes, tins, flavours

    private static void lanesTinsFlavours() {
        lanesAndFlavours();
        hopper();
        foilAndPulls();
        tins();
        apartAtFirst();
    }

    private static void lanesAndFlavours() {
        Check.says("Terms", "There are 4 lanes, 0 to 3, and 6 flavours, 0 to 5.");
        SweetWraps x = new SweetWraps();
        for (int lane = 0; lane < 4; lane++) {
            for (int flavour = 0; flavour < 6; flavour++) {
                Check.due("a lane and a flavour", x.heap(lane, flavour, 1 + lane), (flavour + 1) * (1 + lane));
            }
        }
        for (int flavour = 0; flavour < 6; flavour++) Check.due("sweets", x.flavour(flavour, 0), 10);
        Check.due("lane 4", x.heap(4, 5, 1), -1);
        Check.due("flavour 6", x.heap(3, 6, 1), -1);
    }

    private static void hopper() {
        Check.says("Terms", "A lane has a hopper: up to 6 heaps of sweets, each of a flavour, one behind the other;");
        SweetWraps x = Given.slowWithTins(1);
        int[] flavours = {3, 1, 3, 0, 5, 4};
        for (int heap = 0; heap < 6; heap++) x.heap(0, flavours[heap], 1);
        Check.due("six heaps", x.of(0, 1), 6);
        Check.due("no seventh", x.heap(0, 2, 1), -4);
        for (int heap = 0; heap < 6; heap++) {
            Check.due("the next one is heap " + heap, x.of(0, 2), flavours[heap]);
            x.foil(0, 3);
            Check.due("it is wrapped", x.run(1), 1);
            Check.due("as the last one so far", x.inTin(0, flavours[heap]), heap == 2 ? 2 : 1);
        }
        Check.due("empty then", x.of(0, 2), -6);
    }

    private static void foilAndPulls() {
        Check.says("Terms", "foil (0 at first); and pulls so far.");
        SweetWraps x = new SweetWraps();
        for (int lane = 0; lane < 4; lane++) {
            Check.due("no foil at first", x.of(lane, 3), 0);
            Check.due("no pull at first", x.of(lane, 4), 0);
        }
        x.tin();
        x.heap(1, 0, 5);
        x.foil(1, 9);
        x.foil(2, 7);
        x.run(1);
        Check.due("its own pulls", x.of(1, 4), 3);
        Check.due("none of another lane", x.of(2, 4), 0);
        Check.due("foil of another lane", x.of(2, 3), 7);
        x.foil(1, 3);
        x.run(1);
        Check.due("so far, not of the tick", x.of(1, 4), 4);
    }

    private static void tins() {
        Check.says("Terms", "There are up to 16 tins so far, numbered in the order in which they came, "
                + "each open or shipped, with sweets of flavours.");
        SweetWraps x = Given.slow();
        for (int tin = 0; tin < 16; tin++) {
            Check.due("number", x.tin(), tin);
            Check.due("open", x.ofTin(tin, 1), 0);
            Given.wrap(x, tin % 4, tin % 6, 1);
            Check.due("its sweet", x.inTin(tin, tin % 6), 1);
            Check.due("shipped", x.ship(tin), 1);
            Check.due("is shipped", x.ofTin(tin, 1), 1);
        }
        Check.due("no more, though none is open", x.tin(), -4);
        Check.due("sixteen", x.count(1), 16);
    }

    private static void apartAtFirst() {
        Check.says("Terms", "Two flavours are kept apart, or not (at first).");
        SweetWraps x = new SweetWraps();
        for (int flavour = 0; flavour < 6; flavour++) Check.due("not at first", x.flavour(flavour, 3), 0);
        for (int flavour = 0; flavour < 6; flavour++) {
            for (int other = 0; other < flavour; other++) Check.due("a pair", x.apart(flavour, other), 1);
        }
        for (int flavour = 0; flavour < 6; flavour++) Check.due("all others", x.flavour(flavour, 3), 63 - (1 << flavour));
        Check.due("a pair less", x.apart(2, 4), 0);
        Check.due("2 and not 4", x.flavour(2, 3), 63 - 4 - 16);
        Check.due("4 and not 2", x.flavour(4, 3), 63 - 4 - 16);
        Check.due("1 as it was", x.flavour(1, 3), 63 - 2);
    }

    // ---- a tick

    private static void ticks() {
        lanesByNumbers();
        triesOneAfterTheOther();
        standsInThisTick();
        firstReason();
        reasonEmpty();
        reasonNoTin();
        reasonFoil();
        foilIsPulled();
        foilIsTorn();
        standsBeforeItTears();
        everySecondPullAtLeast();
        sweetIsWrapped();
        heapIsGone();
        tickIsCounted();
    }

    private static void lanesByNumbers() {
        Check.says("Terms", "In a tick, each lane, by numbers, makes SPEED tries, one after the other;");
        SweetWraps x = Given.slowWithTins(1);
        x.set(SweetWraps.ROOM, 7);
        for (int lane = 3; lane >= 0; lane--) {
            x.heap(lane, lane, 5);
            x.foil(lane, 15);
        }
        Check.due("one of each lane", x.run(1), 4);
        Check.due("three are left", x.run(1), 3);
        for (int lane = 0; lane < 4; lane++) Check.due("lane " + lane, x.of(lane, 6), lane < 3 ? 2 : 1);
    }

    private static void triesOneAfterTheOther() {
        SweetWraps x = Given.fastWithTins(1);
        x.set(SweetWraps.SPEED, 4);
        x.set(SweetWraps.ROOM, 6);
        for (int lane = 1; lane < 4; lane++) {
            x.heap(lane, lane, 9);
            x.foil(lane, 99);
        }
        Check.due("six in one tick", x.run(1), 6);
        Check.due("all tries of lane 1 are first", x.of(1, 6), 4);
        Check.due("lane 2 has what is left", x.of(2, 6), 2);
        Check.due("lane 3 has nothing", x.of(3, 6), 0);
    }

    private static void standsInThisTick() {
        Check.says("Terms", "a lane stands still in this tick from the first try on for which one of these is so,");
        SweetWraps x = Given.fastWithTins(1);
        x.set(SweetWraps.ROOM, 4);
        x.heap(0, 0, 9);
        x.heap(0, 1, 9);
        x.foil(0, 99);
        Check.due("four tries, then it stands", x.run(1), 4);
        Check.due("no foil for the tries that fail", x.of(0, 3), 99 - 12);
        Check.due("nor a pull", x.of(0, 4), 4);
        x.tin();
        Check.due("it goes on in another tick", x.run(1), 4);
        Check.due("pulls", x.of(0, 4), 9);
        Check.due("pull 6 of them is torn", x.of(0, 5), 1);
    }

    private static void firstReason() {
        Check.says("Terms", "the first one being the reason:");
        SweetWraps x = new SweetWraps();
        Check.due("all three are so", x.of(0, 7), 1);
        Check.due("all three are so, in the next tick", x.stands(0, 1), 1);
        x.heap(0, 0, 1);
        Check.due("two are so", x.of(0, 7), 2);
        Check.due("two are so, in the next tick", x.stands(0, 1), 2);
        x.tin();
        Check.due("one is so", x.of(0, 7), 3);
        Check.due("one is so, in the next tick", x.stands(0, 1), 3);
        x.foil(0, 3);
        Check.due("none is so", x.of(0, 7), 0);
    }

    private static void reasonEmpty() {
        Check.says("Terms", "1 its hopper is empty;");
        SweetWraps x = Given.slowWithTins(1);
        x.heap(0, 0, 1);
        x.foil(0, 9);
        Check.due("not empty", x.of(0, 7), 0);
        x.run(1);
        Check.due("empty", x.of(0, 7), 1);
        Check.due("nothing is wrapped", x.run(1), 0);
        Check.due("no foil is pulled", x.of(0, 3), 6);
    }

    private static void reasonNoTin() {
        Check.says("Terms", "2 no tin takes its next sweet (the first one of its first heap): none that is open, "
                + "has fewer sweets than ROOM, and has no sweet of a flavour that is kept apart from this one's;");
        SweetWraps x = Given.slow();
        x.heap(3, 1, 1);
        x.foil(3, 9);
        Check.due("no tin at all", x.of(3, 7), 2);
        x = Given.slowWithTins(1);
        Given.wrap(x, 0, 1, 1);
        x.heap(3, 1, 1);
        x.foil(3, 9);
        Check.due("open", x.of(3, 7), 0);
        x.ship(0);
        Check.due("none is open", x.of(3, 7), 2);
        roomOfTins();
        tinsThatAreApart();
        everyTinForAnotherReason();
        nextSweetIsTheFirst();
    }

    private static void roomOfTins() {
        SweetWraps x = Given.slowWithTins(1);
        Given.wrap(x, 0, 1, 5);
        x.heap(0, 1, 5);
        x.foil(0, 30);
        x.set(SweetWraps.ROOM, 6);
        Check.due("one fewer than ROOM", x.of(0, 7), 0);
        x.set(SweetWraps.ROOM, 5);
        Check.due("as many as ROOM", x.of(0, 7), 2);
        x.set(SweetWraps.ROOM, 4);
        Check.due("more than ROOM", x.of(0, 7), 2);
        Check.due("nothing is wrapped", x.run(9), 0);
        x.set(SweetWraps.ROOM, 6);
        Check.due("up to ROOM", x.run(9), 1);
    }

    private static void tinsThatAreApart() {
        SweetWraps x = Given.slowWithTins(1);
        Given.wrap(x, 0, 1, 1);
        Given.wrap(x, 0, 2, 1);
        x.heap(0, 3, 1);
        x.foil(0, 9);
        x.apart(3, 4);
        Check.due("apart from one that is not in it", x.of(0, 7), 0);
        x.apart(1, 4);
        Check.due("others are apart", x.of(0, 7), 0);
        x.apart(3, 2);
        Check.due("apart from one of two", x.of(0, 7), 2);
        x.apart(2, 3);
        x.apart(1, 3);
        Check.due("apart from the other one", x.of(0, 7), 2);
        x.heap(1, 4, 1);
        x.foil(1, 9);
        Check.due("by its own flavour", x.of(1, 7), 2);
        x.heap(2, 5, 1);
        x.foil(2, 9);
        Check.due("apart from none", x.of(2, 7), 0);
    }

    private static void everyTinForAnotherReason() {
        SweetWraps x = Given.slow();
        x.set(SweetWraps.ROOM, 2);
        x.tin();
        Given.wrap(x, 0, 0, 2);
        x.tin();
        Given.wrap(x, 0, 0, 1);
        x.ship(1);
        x.tin();
        Given.wrap(x, 0, 1, 1);
        x.apart(0, 1);
        x.heap(0, 0, 1);
        x.foil(0, 3);
        Check.due("full, shipped, apart", x.of(0, 7), 2);
        Check.due("run", x.run(1), 0);
        x.tin();
        Check.due("the fourth tin takes it", x.run(1), 1);
        Check.due("the fourth tin has it", x.inTin(3, 0), 1);
    }

    private static void nextSweetIsTheFirst() {
        SweetWraps x = Given.slowWithTins(1);
        Given.wrap(x, 0, 1, 1);
        x.apart(0, 1);
        x.heap(0, 0, 1);
        x.heap(0, 1, 5);
        x.foil(0, 99);
        x.heap(1, 1, 1);
        x.heap(1, 0, 5);
        x.foil(1, 99);
        Check.due("the first sweet is apart, the ones behind are not", x.of(0, 7), 2);
        Check.due("the first sweet is taken, the ones behind are not", x.of(1, 7), 0);
        Check.due("only that one", x.run(3), 1);
    }

    private static void reasonFoil() {
        Check.says("Terms", "3 it has less foil than 2 and TWIST, together.");
        SweetWraps x = Given.slowWithTins(1);
        x.heap(0, 0, 9);
        x.foil(0, 2);
        Check.due("2 for one twist", x.of(0, 7), 3);
        Check.due("nothing is wrapped", x.run(1), 0);
        x.foil(0, 1);
        Check.due("3 for one twist", x.of(0, 7), 0);
        x.set(SweetWraps.TWIST, 2);
        Check.due("3 for two twists", x.of(0, 7), 3);
        Check.due("nothing is wrapped", x.run(1), 0);
        x.foil(0, 1);
        Check.due("4 for two twists", x.of(0, 7), 0);
        Check.due("one is wrapped", x.run(9), 1);
        Check.due("all foil is pulled", x.of(0, 3), 0);
        x.foil(1, 999);
        Check.due("foil of another lane does not help", x.of(0, 7), 3);
    }

    private static void foilIsPulled() {
        Check.says("Terms", "Otherwise so much foil is pulled, and that is one pull more.");
        SweetWraps x = Given.slowWithTins(2);
        x.heap(0, 0, 20);
        x.foil(0, 100);
        for (int pull = 1; pull <= 9; pull++) {
            x.run(1);
            Check.due("foil left", x.of(0, 3), 100 - 3 * pull);
            Check.due("foil pulled", x.count(8), 3 * pull);
            Check.due("pulls", x.of(0, 4), pull);
        }
        x.set(SweetWraps.TWIST, 2);
        x.run(5);
        Check.due("foil left", x.of(0, 3), 100 - 27 - 20);
        Check.due("foil pulled", x.count(8), 27 + 20);
        Check.due("pulls", x.of(0, 4), 14);
        x = Given.slowWithTins(1);
        x.set(SweetWraps.TEAR, 4);
        x.heap(0, 0, 9);
        x.foil(0, 99);
        x.run(4);
        Check.due("also if it is torn: foil", x.of(0, 3), 87);
        Check.due("also if it is torn: pulls", x.of(0, 4), 4);
    }

    private static void foilIsTorn() {
        Check.says("Terms", "If pulls so far are a multiple of TEAR / SPEED, but of 2 at least, the foil is torn: "
                + "it is wasted, and the sweet stays.");
        SweetWraps x = new SweetWraps();
        for (int tin = 0; tin < 4; tin++) x.tin();
        for (int lane = 0; lane < 2; lane++) {
            x.heap(lane, lane, 50);
            x.foil(lane, 200);
        }
        Check.due("pulls 1 to 3 of both", x.run(1), 6);
        Check.due("pulls 4 to 6 of both", x.run(1), 4);
        Check.due("the sixth is torn", x.of(0, 5) * 10 + x.of(1, 5), 11);
        Check.due("its foil is wasted", x.count(9), 6);
        Check.due("the sweet stays", x.of(0, 0), 45);
        Check.due("in no tin either", x.ofTin(0, 0) + x.ofTin(1, 0), 10);
        Check.due("pulls 7 to 12 of both", x.run(2), 10);
        Check.due("the twelfth is torn, too", x.of(0, 5), 2);
        // pulls 13, 14 .. 20: with TEAR 15 and SPEED 1 the multiples of 15 alone are torn
        x.set(SweetWraps.SPEED, 1);
        x.set(SweetWraps.TEAR, 15);
        x.set(SweetWraps.TWIST, 2);
        Check.due("pulls 13 and 14", x.run(2), 4);
        Check.due("pull 15", x.run(1), 0);
        Check.due("so far, whatever SPEED was", x.of(1, 5), 3);
        Check.due("wasted by the twists of its pull", x.count(9), 12 + 8);
    }

    /** A lane stands still before it pulls: also if that pull would be torn, and so need no tin. */
    private static void standsBeforeItTears() {
        SweetWraps x = Given.slow();
        x.set(SweetWraps.TEAR, 4);
        x.set(SweetWraps.ROOM, 3);
        x.tin();
        x.heap(0, 0, 9);
        x.foil(0, 99);
        Check.due("pulls 1 to 3 fill the tin", x.run(3), 3);
        Check.due("no tin for pull 4", x.of(0, 7), 2);
        x.run(5);
        Check.due("it is not done", x.of(0, 4), 3);
        Check.due("nothing is torn", x.of(0, 5), 0);
        x.tin();
        Check.due("pull 4 is torn", x.run(1), 0);
        Check.due("pull 5 is not", x.run(1), 1);
        x = Given.slowWithTins(1);
        x.set(SweetWraps.TEAR, 4);
        x.heap(0, 0, 3);
        x.foil(0, 99);
        x.run(9);
        Check.due("nor without a sweet", x.of(0, 4), 3);
    }

    private static void everySecondPullAtLeast() {
        // TEAR / SPEED is 0, 1, 1, 2 and 3
        int[][] tearSpeedDue = {{4, 9, 2}, {4, 4, 2}, {5, 3, 2}, {5, 2, 2}, {9, 3, 3}};
        for (int[] each : tearSpeedDue) dueFirstTear(each[0], each[1], each[2]);
        SweetWraps x = Given.fastWithTins(9);
        x.set(SweetWraps.TEAR, 4);
        x.heap(2, 1, 100);
        x.foil(2, 999);
        Check.due("pulls 1 to 9", x.run(1), 5);
        Check.due("2, 4, 6 and 8 are torn", x.of(2, 5), 4);
        Check.due("pulls 10 to 18", x.run(1), 4);
        Check.due("10, 12 .. 18 are torn", x.of(2, 5), 9);
    }

    private static void sweetIsWrapped() {
        Check.says("Terms", "Otherwise the sweet is wrapped, and comes into the lowest tin that takes it.");
        SweetWraps x = Given.slowWithTins(4);
        x.set(SweetWraps.ROOM, 2);
        x.apart(0, 1);
        Given.wrap(x, 0, 0, 1);
        Given.wrap(x, 0, 1, 1);
        Check.due("flavour 1 passes tin 0", x.inTin(1, 1), 1);
        Given.wrap(x, 0, 2, 1);
        Check.due("flavour 2 comes to tin 0", x.inTin(0, 2), 1);
        Given.wrap(x, 0, 2, 1);
        Check.due("then to tin 1", x.inTin(1, 2), 1);
        Given.wrap(x, 0, 0, 1);
        Check.due("flavour 0 comes to tin 2", x.inTin(2, 0), 1);
        x.ship(2);
        Given.wrap(x, 0, 0, 1);
        Check.due("then to tin 3", x.inTin(3, 0), 1);
        x.set(SweetWraps.ROOM, 3);
        Given.wrap(x, 0, 0, 1);
        Check.due("with more room to tin 0 again", x.inTin(0, 0), 2);
        Check.due("wrapped so far", x.of(0, 6), 7);
        Check.due("no sweet is left", x.of(0, 0), 0);
    }

    private static void heapIsGone() {
        Check.says("Terms", "A heap without sweets is gone.");
        SweetWraps x = Given.slowWithTins(1);
        x.heap(0, 1, 2);
        x.heap(0, 2, 1);
        x.heap(0, 3, 4);
        x.foil(0, 99);
        x.run(1);
        Check.due("one is left of the first", x.of(0, 1), 3);
        x.run(1);
        Check.due("the first is gone", x.of(0, 1), 2);
        Check.due("the next one is first", x.ofHeap(0, 0, 0) * 10 + x.ofHeap(0, 0, 1), 21);
        Check.due("the third is second", x.ofHeap(0, 1, 0) * 10 + x.ofHeap(0, 1, 1), 34);
        Check.due("there is no third", x.ofHeap(0, 2, 0), -1);
        for (int flavour = 4; flavour < 8; flavour++) x.heap(0, flavour % 6, 1);
        Check.due("there is place for six again", x.of(0, 1), 6);
        Check.due("not for seven", x.heap(0, 3, 1), -4);
        x.run(99);
        Check.due("all are gone", x.of(0, 1), 0);
        Check.due("no flavour is next", x.of(0, 2), -6);
        Check.due("there is no heap", x.ofHeap(0, 0, 0), -1);
        Check.due("one of the last flavour is a new one", x.heap(0, 1, 3) * 10 + x.of(0, 1), 31);
        Check.due("with its own sweets", x.ofHeap(0, 0, 1), 3);
    }

    private static void tickIsCounted() {
        Check.says("Terms", "Then the tick is counted (0 at first).");
        SweetWraps x = Given.fastWithTins(1);
        Check.due("at first", x.count(0), 0);
        x.heap(0, 0, 5);
        x.foil(0, 99);
        x.run(1);
        Check.due("once, not by lanes or tries", x.count(0), 1);
        x.run(5);
        Check.due("also if all lanes stand", x.count(0), 6);
        x.run(99);
        Check.due("each of a run", x.count(0), 105);
    }
}
