/** Promises 25 to 27: undo, and saved states. */
public final class UndoSaveTest {
    public static void main(String[] args) {
        historyOfSix();
        errorsLeaveTheHistory();
        undoOfEach();
        undoBringsAllBack();
        whatIsNoChange();
        saveAndRestore();
        slotsAreKept();
        Check.finish();
    }

    private static void historyOfSix() {
        SweetWraps x = new SweetWraps();
        Check.due("undo of nothing", x.undo(), -5);
        for (int speed = 1; speed <= 9; speed++) {
            x.set(SweetWraps.SPEED, speed);
            Check.due("changes", x.count(16), Math.min(speed, 6));
        }
        for (int left = 5; left >= 0; left--) {
            Check.due("undo()", x.undo(), left);
            Check.due("speed", x.count(11), left + 3);
            Check.due("changes left", x.count(16), left);
        }
        Check.due("undo of what is dropped", x.undo(), -5);
        Check.due("the speed stays", x.count(11), 3);
        x.set(SweetWraps.SPEED, 3);
        Check.due("also if nothing is different", x.undo(), 0);
        for (int round = 0; round < 3; round++) {
            for (int speed = 1; speed <= 4; speed++) x.set(SweetWraps.SPEED, speed);
            Check.due("two back: first", x.undo() >= 3 ? 1 : 0, 1);
            Check.due("two back: second", x.undo() >= 2 ? 1 : 0, 1);
            Check.due("speed of before", x.count(11), 2);
        }
    }

    /** An error after the oldest state was dropped: all six that are kept are still as they were. */
    private static void errorsLeaveTheHistory() {
        SweetWraps x = new SweetWraps();
        for (int room = 1; room <= 20; room++) {
            x.set(SweetWraps.ROOM, room);
            Check.due("an error", x.ship(0), -1);
            Check.due("another error", x.run(0), -2);
        }
        for (int left = 5; left >= 0; left--) {
            Check.due("undo()", x.undo(), left);
            Check.due("room", x.count(13), 14 + left);
        }
    }

    private static SweetWraps machine() {
        SweetWraps x = new SweetWraps();
        for (int i = 0; i < 4; i++) x.tin();
        x.heap(1, 0, 20);
        x.foil(1, 99);
        x.run(2);
        x.save(1);
        x.run(1);
        return x;
    }

    private static void undoOfEach() {
        String before = Facts.of(machine());
        for (int change = 0; change < 9; change++) {
            SweetWraps x = machine();
            if (change == 8) Check.put(x, "t;a34;r9;s1");
            Check.due("change " + change, doChange(x, change) >= 0 ? 1 : 0, 1);
            Check.due("change " + change + " is seen", Facts.of(x).equals(before) ? 1 : 0, 0);
            x = machine();
            if (change == 8) Check.put(x, "t;a34;r9;s1");
            doChange(x, change);
            Check.due("change " + change + " can be undone", x.undo(), 5);
            Check.same("change " + change + " is undone", Facts.of(x), before);
        }
    }

    private static int doChange(SweetWraps x, int change) {
        switch (change) {
            case 0: return x.set(SweetWraps.TEAR, 5);
            case 1: return x.heap(1, 3, 2);
            case 2: return x.foil(2, 1);
            case 3: return x.tin();
            case 4: return x.ship(0);
            case 5: return x.apart(0, 5);
            case 6: return x.run(1);
            case 7: return x.restore(1);
            default: return x.carryOut();
        }
    }

    private static SweetWraps machineWithTwoHeaps() {
        SweetWraps x = new SweetWraps();
        x.tin();
        x.heap(0, 0, 20);
        x.heap(0, 1, 20);
        x.foil(0, 99);
        x.run(3);
        return x;
    }

    private static void undoBringsAllBack() {
        SweetWraps x = machineWithTwoHeaps();
        x.run(5);
        x.ship(0);
        x.tin();
        x.apart(0, 2);
        x.set(SweetWraps.TWIST, 2);
        x.foil(1, 5);
        for (int i = 5; i >= 0; i--) Check.due("undo()", x.undo(), i);
        Check.same("all is as it was", Facts.of(x), Facts.of(machineWithTwoHeaps()));
        Check.due("it goes on from there, pull 12 is torn", x.run(1), 2);
    }

    private static void whatIsNoChange() {
        SweetWraps x = new SweetWraps();
        x.tin();
        Check.put(x, "tt");
        x.wipe();
        x.save(0);
        x.carryOut();
        x.ship(0);
        x.set(0, 0);
        x.restore(1);
        x.restore(2);
        Check.due("errors and the pad are no changes", x.count(16), 1);
        Check.put(x, "t;t");
        Check.due("undo()", x.undo(), 0);
        Check.due("the pad stays", x.count(15), 3);
        Check.due("carryOut", x.carryOut(), 2);
        Check.due("undo is no change", x.count(16), 1);
    }

    private static void saveAndRestore() {
        SweetWraps x = new SweetWraps();
        for (int slot : new int[] {-1, 2, Integer.MIN_VALUE, Integer.MAX_VALUE}) {
            Check.due("save(" + slot + ")", x.save(slot), -2);
            Check.due("restore(" + slot + ")", x.restore(slot), -2);
        }
        Check.due("restore(0)", x.restore(0), -5);
        Check.due("restore(1)", x.restore(1), -5);
        Check.due("save(0) of a new one", x.save(0), 0);
        Check.due("restore(0) of a new one", x.restore(0), 0);
        Check.due("that is a change", x.count(16), 1);
        work(x);
        Check.due("save(1)", x.save(1), 1);
        workOn(x);
        Check.due("restore(1)", x.restore(1), 1);
        Check.due("the pad stays", x.count(15), 1);
        Check.due("the history stays", x.count(16), 6);
        Check.due("undo of restore", x.undo(), 5);
        Check.due("as it was before: tins", x.count(1), 2);
        Check.due("restore(0)", x.restore(0), 0);
        Check.due("as new", x.count(0) + x.count(1) + x.count(4) + x.count(7), 0);
        Check.due("the other slot is as it was", x.restore(1), 1);
        SweetWraps saved = new SweetWraps();
        work(saved);
        Check.same("as it was saved, again", Facts.of(x), Facts.of(saved));
        undoOfRestore();
    }

    private static void undoOfRestore() {
        SweetWraps x = new SweetWraps();
        work(x);
        x.save(1);
        workOn(x);
        x.restore(1);
        x.undo();
        SweetWraps y = new SweetWraps();
        work(y);
        workOn(y);
        Check.same("as it was before", Facts.of(x), Facts.of(y));
    }

    private static void work(SweetWraps x) {
        x.tin();
        x.heap(0, 3, 30);
        x.foil(0, 60);
        x.run(2);
        x.apart(3, 4);
        x.set(SweetWraps.ROOM, 50);
    }

    private static void workOn(SweetWraps x) {
        Check.put(x, "t");
        x.run(4);
        x.ship(0);
        x.tin();
    }

    private static void slotsAreKept() {
        SweetWraps x = new SweetWraps();
        x.tin();
        x.save(0);
        x.undo();
        Check.due("undo leaves the slots", x.restore(0), 1);
        x.heap(0, 0, 5);
        x.foil(0, 99);
        x.run(1);
        Check.due("the slot keeps what it has", x.restore(0), 1);
        Check.due("no sweets in it", x.count(4) + x.count(5), 0);
        x.tin();
        Check.due("save(0) over it", x.save(0), 2);
        x.tin();
        Check.due("what was saved last", x.restore(0), 2);
        Check.due("save of what is restored", x.save(1), 2);
        Check.due("restore(1)", x.restore(1), 2);
    }
}
