/** Promises 17 to 20: what would be, while nothing changes. */
public final class WhatIfTest {
    public static void main(String[] args) {
        stands();
        standsInTime();
        bestSpeed();
        ifApart();
        tinsFor();
        changeNothing();
        Check.finish();
    }

    private static void stands() {
        SweetWraps x = new SweetWraps();
        Check.due("stands(-1, 9)", x.stands(-1, 9), -1);
        Check.due("stands(4, 0)", x.stands(4, 0), -1);
        Check.due("stands(max, 0)", x.stands(Integer.MAX_VALUE, 0), -1);
        Check.due("stands(0, -1)", x.stands(0, -1), -2);
        Check.due("stands(0, 2)", x.stands(0, 2), -2);
        Check.due("stands(0, 0)", x.stands(0, 0), 1);
        Check.due("stands(0, 1)", x.stands(0, 1), 1);
        x.heap(0, 0, 6);
        Check.due("no tin", x.stands(0, 1), 2);
        x.tin();
        Check.due("no foil", x.stands(0, 1), 3);
        x.foil(0, 99);
        x.set(SweetWraps.TEAR, 60);
        Check.due("6 sweets, 3 a tick: not in tick 2", x.stands(0, 0), 3);
        Check.due("then it is empty", x.stands(0, 1), 1);
        x.heap(1, 0, 200);
        x.foil(1, 20);
        Check.due("the tin is full after 6 of lane 1", x.stands(1, 0), 3);
        Check.due("reason no tin", x.stands(1, 1), 2);
        x.set(SweetWraps.ROOM, 99);
        Check.due("6 pulls, and 2 of foil", x.stands(1, 0), 3);
        Check.due("reason foil", x.stands(1, 1), 3);
        Check.due("nothing changed", x.count(0), 0);
    }

    /** Within 200 ticks, the last one too. */
    private static void standsInTime() {
        SweetWraps x = new SweetWraps();
        x.set(SweetWraps.SPEED, 1);
        x.set(SweetWraps.TEAR, 60);
        x.set(SweetWraps.ROOM, 99);
        for (int tin = 0; tin < 4; tin++) x.tin();
        x.foil(0, 999);
        x.heap(0, 0, 196);
        // 196 wrapped and 3 torn in 199 ticks
        Check.due("in tick 200", x.stands(0, 0), 200);
        Check.due("in tick 200, why", x.stands(0, 1), 1);
        x.heap(0, 0, 1);
        Check.due("not within 200", x.stands(0, 0), -6);
        Check.due("not within 200, why", x.stands(0, 1), -6);
        Check.due("errors come first", x.stands(0, 2), -2);
        x.run(1);
        Check.due("a tick nearer", x.stands(0, 0), 200);
    }

    private static void bestSpeed() {
        SweetWraps x = new SweetWraps();
        Check.due("bestSpeed(0, 0)", x.bestSpeed(0, 0), -2);
        Check.due("bestSpeed(51, 0)", x.bestSpeed(51, 0), -2);
        Check.due("bestSpeed(min, 0)", x.bestSpeed(Integer.MIN_VALUE, 0), -2);
        Check.due("bestSpeed(1, -1)", x.bestSpeed(1, -1), -2);
        Check.due("bestSpeed(1, 2)", x.bestSpeed(1, 2), -2);
        Check.due("the least of several", x.bestSpeed(50, 0), 1);
        Check.due("nothing to wrap", x.bestSpeed(50, 1), 0);
        x.tin();
        x.heap(0, 0, 200);
        x.foil(0, 999);
        // in one tick: 1 2 3 4 4 4 4 4 5 are wrapped by speeds 1 to 9 (periods 20 10 6 5 4 3 2 2 2)
        Check.due("one tick", x.bestSpeed(1, 0), 9);
        Check.due("one tick, how many", x.bestSpeed(1, 1), 5);
        x.set(SweetWraps.ROOM, 4);
        Check.due("room for 4", x.bestSpeed(1, 0), 4);
        Check.due("room for 4, how many", x.bestSpeed(1, 1), 4);
        Check.due("in four ticks the least does", x.bestSpeed(4, 0), 1);
        Check.due("the setting stays", x.count(11), 3);
        x.set(SweetWraps.SPEED, 9);
        Check.due("whatever the setting is", x.bestSpeed(1, 0), 4);
    }

    private static void ifApart() {
        SweetWraps x = new SweetWraps();
        Check.due("ifApart(-1, -1, 0)", x.ifApart(-1, -1, 0), -1);
        Check.due("ifApart(0, 6, 0)", x.ifApart(0, 6, 0), -1);
        Check.due("ifApart(6, 0, 1)", x.ifApart(6, 0, 1), -1);
        Check.due("ifApart(max, 0, 1)", x.ifApart(Integer.MAX_VALUE, 0, 1), -1);
        Check.due("ifApart(2, 2, 1)", x.ifApart(2, 2, 1), -2);
        Check.due("ifApart(2, 3, 0)", x.ifApart(2, 3, 0), -2);
        Check.due("ifApart(2, 3, 51)", x.ifApart(2, 3, 51), -2);
        x.tin();
        x.heap(0, 0, 2);
        x.heap(0, 1, 3);
        x.foil(0, 99);
        Check.due("kept apart: only the first", x.ifApart(0, 1, 9), 2);
        Check.due("of two others: all", x.ifApart(0, 2, 9), 5);
        x.apart(1, 0);
        Check.due("not any more: all", x.ifApart(0, 1, 9), 5);
        Check.due("in one tick", x.ifApart(1, 0, 1), 3);
        Check.due("they are still apart", x.flavour(0, 3), 2);
        x.apart(1, 0);
        x.run(1);
        Check.due("an open tin has both", x.apart(0, 1), -5);
        Check.due("whatever tins have: it takes neither", x.ifApart(0, 1, 50), 0);
        x.tin();
        Check.due("the other tin takes them", x.ifApart(0, 1, 50), 2);
        Check.due("they are not apart", x.flavour(0, 3), 0);
    }

    private static void tinsFor() {
        SweetWraps x = new SweetWraps();
        Check.due("nothing", x.tinsFor(), 0);
        x.heap(0, 0, 12);
        Check.due("12 in 12", x.tinsFor(), 1);
        x.heap(3, 0, 1);
        Check.due("13 in 12, of two lanes", x.tinsFor(), 2);
        x.heap(3, 5, 1);
        Check.due("another flavour", x.tinsFor(), 3);
        x.heap(1, 5, 11);
        Check.due("full", x.tinsFor(), 3);
        x.set(SweetWraps.ROOM, 1);
        Check.due("room 1", x.tinsFor(), 25);
        x.set(SweetWraps.ROOM, 99);
        Check.due("room 99", x.tinsFor(), 2);
        for (int tin = 0; tin < 16; tin++) x.tin();
        Check.due("tins that are there don't matter", x.tinsFor(), 2);
        Check.due("nor does the bound of tins", x.set(SweetWraps.ROOM, 1) + x.tinsFor(), 99 + 25);
    }

    private static void changeNothing() {
        SweetWraps x = new SweetWraps();
        x.tin();
        x.heap(0, 0, 50);
        x.foil(0, 500);
        x.save(0);
        for (int i = 0; i < 5; i++) {
            x.stands(i, 0);
            x.bestSpeed(9, i);
            x.ifApart(0, i, 9);
            x.tinsFor();
        }
        Check.due("no change", x.count(16), 3);
        Check.due("no tick", x.count(0), 0);
        Check.due("no sweet", x.count(5), 0);
        Check.due("no foil", x.count(7), 500);
        Check.due("nor in the slot", x.restore(0), 1);
        Check.due("no sweet there", x.count(5), 0);
    }
}
