/** Each sentence of promises 25 to 27. */
public final class SentencesOfUndoTest {
    private static final String TEXT = "h2.0*9;t;f1+9;a34;r3;s1";
    private static final int CHANGES = 10;

    public static void main(String[] args) {
        undo();
        save();
        restore();
        Check.finish();
    }

    // ---- promise 25

    private static void undo() {
        latestChange();
        sixLatestChanges();
        padStays();
        slotsStay();
        historyGoesOn();
        atMostSix();
        whatRecords();
        errorsRecordNothing();
        ordersRecordNothing();
        Check.says("Promise 25", "Returns how many changes can be undone then;");
        SweetWraps x = new SweetWraps();
        for (int change = 0; change < 4; change++) x.tin();
        for (int left = 3; left >= 0; left--) {
            Check.due("undo", x.undo(), left);
            Check.due("changes", x.count(16), left);
        }
        Check.says("Promise 25", "NOT_POSSIBLE if there is none.");
        Check.due("none is left", x.undo(), -5);
        Check.due("still none", x.undo(), -5);
        Check.due("none of a new one", new SweetWraps().undo(), -5);
        x.tin();
        Check.due("one is there again", x.undo(), 0);
        Check.due("and none", x.undo(), -5);
    }

    /** Midway, with another state in slot 1, and a text on the pad. */
    private static SweetWraps readyForChanges() {
        SweetWraps x = Given.midway();
        x.apart(0, 5);
        x.heap(3, 3, 33);
        x.save(1);
        x.undo();
        x.undo();
        Check.put(x, TEXT);
        return x;
    }

    private static int change(SweetWraps x, int change) {
        switch (change) {
            case 0: return x.set(SweetWraps.TEAR, 5);
            case 1: return x.heap(0, 5, 9);
            case 2: return x.foil(0, 77);
            case 3: return x.tin();
            case 4: return x.ship(1);
            case 5: return x.apart(1, 2);
            case 6: return x.run(7);
            case 7: return x.restore(1);
            case 8: return x.set(SweetWraps.TWIST, 1);
            default: return x.carryOut();
        }
    }

    private static void latestChange() {
        Check.says("Promise 25", "Undoes the latest change: everything except the pad, the slots and the history is as it "
                + "was before it.");
        String before = Facts.of(readyForChanges());
        for (int change = 0; change < CHANGES; change++) {
            SweetWraps x = readyForChanges();
            Check.due("change " + change + " is no error", change(x, change) >= 0 ? 1 : 0, 1);
            String changed = Facts.of(x);
            Check.due("change " + change + " is seen", changed.equals(before) ? 1 : 0, 0);
            x = readyForChanges();
            change(x, change);
            Check.due("change " + change + " is undone", x.undo(), 4);
            Check.same("as before change " + change, Facts.of(x), before);
            x = readyForChanges();
            change(x, change);
            x.undo();
            if (x.count(15) == 0) Check.put(x, TEXT);
            change(x, change);
            Check.same("change " + change + " once more", Facts.of(x), changed);
        }
    }

    private static void sixLatestChanges() {
        String before = Facts.of(readyForChanges());
        for (int first = 0; first < CHANGES; first++) {
            SweetWraps x = readyForChanges();
            int done = 0;
            for (int i = 0; i < 6; i++) {
                if (change(x, (first + i) % CHANGES) >= 0) done++;
            }
            for (int i = 0; i < done; i++) x.undo();
            Check.same("as before " + done + " changes from " + first, Facts.of(x), before);
        }
    }

    private static void padStays() {
        SweetWraps x = new SweetWraps();
        x.tin();
        Check.put(x, "t;t");
        Check.due("undo", x.undo(), 0);
        Check.due("what was put stays", x.count(15), 3);
        Check.due("and is read", x.carryOut(), 2);
        Check.due("undo", x.undo(), 0);
        Check.due("what was carried out does not come back", x.count(15), 0);
        x.tin();
        Check.put(x, "t");
        x.tin();
        x.wipe();
        x.undo();
        Check.due("what was wiped does not come back", x.count(15), 0);
    }

    private static void slotsStay() {
        SweetWraps x = new SweetWraps();
        x.tin();
        x.save(0);
        x.undo();
        Check.due("what was saved stays", x.restore(0), 1);
        x.tin();
        x.save(0);
        x.undo();
        x.undo();
        Check.due("no tin", x.count(1), 0);
        Check.due("what was saved over it stays", x.restore(0), 2);
        x.undo();
        Check.due("undo of restore leaves the slot", x.restore(0), 2);
        Check.due("the other slot is still empty", x.restore(1), -5);
    }

    private static void historyGoesOn() {
        SweetWraps x = new SweetWraps();
        for (int room = 1; room <= 4; room++) x.set(SweetWraps.ROOM, room);
        x.undo();
        x.undo();
        Check.due("two are left", x.count(16), 2);
        x.set(SweetWraps.ROOM, 90);
        Check.due("a change behind them", x.count(16), 3);
        int[] rooms = {2, 1, 12};
        for (int left = 2; left >= 0; left--) {
            Check.due("undo", x.undo(), left);
            Check.due("room", x.count(13), rooms[2 - left]);
        }
        Check.due("undo is no change that can be undone", x.undo(), -5);
    }

    private static void atMostSix() {
        Check.says("Promise 25", "A history of at most 6 states is kept:");
        for (int changes = 0; changes <= 30; changes++) {
            SweetWraps x = new SweetWraps();
            for (int i = 0; i < changes; i++) x.foil(0, 1);
            Check.due(changes + " changes", x.count(16), Math.min(changes, 6));
            int undone = 0;
            while (undone < 10 && x.undo() >= 0) undone++;
            Check.due("undone", undone, Math.min(changes, 6));
        }
        Check.says("Promise 25", "when one more is recorded, the oldest one is dropped.");
        for (int changes = 1; changes <= 30; changes++) {
            SweetWraps x = new SweetWraps();
            for (int i = 0; i < changes; i++) x.foil(0, 1);
            for (int left = Math.min(changes, 6) - 1; left >= 0; left--) {
                Check.due("undo", x.undo(), left);
                Check.due("foil", x.of(0, 3), changes - Math.min(changes, 6) + left);
            }
        }
        SweetWraps x = new SweetWraps();
        for (int i = 0; i < 8; i++) x.foil(0, 1);
        for (int i = 0; i < 3; i++) x.undo();
        for (int i = 0; i < 5; i++) x.foil(0, 10);
        int[] foil = {45, 35, 25, 15, 5, 4};
        for (int left = 5; left >= 0; left--) {
            Check.due("undo", x.undo(), left);
            Check.due("foil", x.of(0, 3), foil[5 - left]);
        }
        Check.due("the two oldest ones are dropped", x.undo(), -5);
        Check.due("foil", x.of(0, 3), 4);
    }

    private static void whatRecords() {
        Check.says("Promise 25", "each method that is a change, and returns no error, records the state before it (also if "
                + "nothing is different then);");
        for (int change = 0; change < CHANGES; change++) {
            SweetWraps x = readyForChanges();
            change(x, change);
            Check.due("change " + change, x.count(16), 5);
        }
        SweetWraps x = new SweetWraps();
        x.save(0);
        x.set(SweetWraps.ROOM, 12);
        Check.due("the same value", x.count(16), 1);
        x.restore(0);
        Check.due("the same state", x.count(16), 2);
        Check.put(x, "s0");
        x.carryOut();
        Check.due("no order", x.count(16), 3);
        x.run(1);
        Check.due("no sweet", x.count(16), 4);
        for (int left = 3; left >= 0; left--) Check.due("undo", x.undo(), left);
    }

    private static void errorsRecordNothing() {
        SweetWraps x = new SweetWraps();
        for (int room = 20; room < 30; room++) {
            x.set(SweetWraps.ROOM, room);
            x.set(SweetWraps.ROOM, 100);
            x.heap(0, 0, 0);
            x.foil(4, 1);
            x.ship(0);
            x.apart(2, 2);
            x.run(0);
            x.carryOut();
            x.restore(0);
            x.save(2);
        }
        for (int left = 5; left >= 0; left--) {
            Check.due("undo", x.undo(), left);
            Check.due("room", x.count(13), 23 + left);
        }
        Check.due("no more", x.undo(), -5);
    }

    private static void ordersRecordNothing() {
        Check.says("Promise 25", "An order of a text records nothing by itself.");
        SweetWraps x = new SweetWraps();
        x.foil(0, 5);
        Check.put(x, "t;t;h0.0*1;f0+1;a01;r1;s0;t;t;t");
        Check.due("ten orders", x.carryOut(), 10);
        Check.due("two changes", x.count(16), 2);
        Check.due("undo", x.undo(), 1);
        Check.due("all orders are undone", x.count(1), 0);
        Check.due("what was before them is not", x.of(0, 3), 5);
        Check.due("undo", x.undo(), 0);
        Check.due("then it is", x.of(0, 3), 0);
    }

    // ---- promise 26

    private static void save() {
        Check.says("Promise 26", "Saves everything except the pad, the history and the slots in a slot, and overwrites what "
                + "was saved there.");
        String midway = Facts.of(Given.midway());
        for (int slot = 0; slot < 2; slot++) {
            SweetWraps x = Given.midway();
            x.save(slot);
            for (int change = 0; change < CHANGES; change++) if (change != 7) change(x, change);
            x.restore(slot);
            Check.same("everything is as it was saved", Facts.of(x), midway);
            overwrites(slot);
        }
        exceptPadHistoryAndSlots();
        Check.says("Promise 26", "- `slot`: 0 or 1");
        SweetWraps x = new SweetWraps();
        x.tin();
        Check.due("slot 0", x.save(0), 1);
        x.tin();
        Check.due("slot 1", x.save(1), 2);
        Check.due("each of its own: 0", x.restore(0), 1);
        Check.due("each of its own: 1", x.restore(1), 2);
        Check.says("Promise 26", "Returns how many tins there have been;");
        x = Given.slow();
        for (int tins = 0; tins <= 16; tins++) {
            Check.due("tins", x.save(tins % 2), tins);
            x.tin();
        }
        Given.wrap(x, 0, 0, 1);
        x.ship(0);
        Check.due("also shipped ones", x.save(0), 16);
        Check.says("Promise 26", "BAD_VALUE if there is no such slot.");
        Check.due("slot 2", x.save(2), -2);
        Check.due("slot -1", x.save(-1), -2);
        for (int slot : Given.FAR_OUT) Check.due("far out", x.save(slot), -2);
    }

    private static void overwrites(int slot) {
        SweetWraps x = Given.midway();
        x.save(slot);
        x.tin();
        x.heap(1, 1, 1);
        x.save(1 - slot);
        x.foil(3, 3);
        x.set(SweetWraps.SPEED, 9);
        x.run(2);
        x.save(slot);
        String saved = Facts.of(x);
        x = Given.midway();
        x.save(slot);
        x.tin();
        x.heap(1, 1, 1);
        x.save(1 - slot);
        x.foil(3, 3);
        x.set(SweetWraps.SPEED, 9);
        x.run(2);
        x.save(slot);
        x.ship(1);
        x.restore(1 - slot);
        Check.due("the other slot is not", x.of(3, 3) * 10 + x.of(1, 0), 1);
        x.restore(slot);
        Check.same("what was saved last", Facts.of(x), saved);
    }

    private static void exceptPadHistoryAndSlots() {
        SweetWraps x = new SweetWraps();
        x.tin();
        Check.put(x, "t;");
        x.save(0);
        Check.due("save is no change", x.count(16), 1);
        x.put('t');
        x.tin();
        x.save(1);
        x.foil(0, 1);
        Check.due("restore", x.restore(0), 1);
        Check.due("the pad is not saved", x.count(15), 3);
        Check.due("nor is the history", x.count(16), 4);
        Check.due("nor are the slots", x.restore(1), 2);
        for (int left = 4; left >= 0; left--) Check.due("undo", x.undo(), left);
        Check.due("all is undone", x.count(1), 0);
    }

    // ---- promise 27

    private static void restore() {
        Check.says("Promise 27", "Restores what was saved last in a slot, which keeps it.");
        String midway = Facts.of(Given.midway());
        SweetWraps x = Given.midway();
        x.save(1);
        for (int round = 0; round < 3; round++) {
            for (int change = 0; change < CHANGES; change++) if (change != 7) change(x, change);
            x.run(9);
            x.restore(1);
        }
        Check.same("for the third time", Facts.of(x), midway);
        Check.says("Promise 27", "This is a change.");
        x = readyForChanges();
        Check.due("restore", x.restore(1), 4);
        Check.due("a state more", x.count(16), 5);
        Check.due("undo", x.undo(), 4);
        Check.same("as before it", Facts.of(x), midway);
        padAndHistoryStay();
        Check.says("Promise 27", "- `slot`: 0 or 1");
        x = Given.slowWithTins(3);
        x.save(0);
        x.tin();
        x.save(1);
        x.tin();
        Check.due("slot 0", x.restore(0), 3);
        Check.due("slot 1", x.restore(1), 4);
        Check.says("Promise 27", "Returns how many tins there have been then;");
        for (int tins = 0; tins <= 16; tins++) {
            x = Given.slowWithTins(tins);
            x.save(tins % 2);
            x.tin();
            Check.due("tins", x.restore(tins % 2), tins);
            Check.due("tins so far", x.count(1), tins);
        }
        Check.says("Promise 27", "BAD_VALUE if there is no such slot;");
        Check.due("slot 2", x.restore(2), -2);
        for (int slot : Given.FAR_OUT) Check.due("far out", x.restore(slot), -2);
        nothingSaved();
    }

    private static void padAndHistoryStay() {
        SweetWraps x = new SweetWraps();
        x.save(0);
        for (int room = 1; room <= 9; room++) x.set(SweetWraps.ROOM, room);
        Check.put(x, "r1;r2");
        Check.due("restore", x.restore(0), 0);
        Check.due("the pad stays", x.count(15), 5);
        Check.due("it is a change, so the oldest one is dropped", x.count(16), 6);
        for (int left = 5; left >= 0; left--) {
            Check.due("undo", x.undo(), left);
            Check.due("room", x.count(13), 4 + left);
        }
    }

    private static void nothingSaved() {
        Check.says("Promise 27", "NOT_POSSIBLE if nothing was saved in it.");
        SweetWraps x = new SweetWraps();
        Check.due("slot 0", x.restore(0), -5);
        Check.due("slot 1", x.restore(1), -5);
        Check.due("no change", x.count(16), 0);
        x.save(1);
        Check.due("slot 0 still", x.restore(0), -5);
        Check.due("slot 1 now", x.restore(1), 0);
        x.save(0);
        Check.due("slot 0 now", x.restore(0), 0);
        Check.due("two changes", x.count(16), 2);
        x = new SweetWraps();
        x.save(2);
        Check.due("what was refused is not saved", x.restore(0), -5);
    }
}
