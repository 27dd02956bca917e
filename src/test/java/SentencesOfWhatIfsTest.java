/** Each sentence of promises 17 to 20. */
public final class SentencesOfWhatIfsTest {
    public static void main(String[] args) {
        stands();
        bestSpeed();
        ifApart();
        tinsFor();
        Check.finish();
    }

    // ---- promise 17

    private static void dueStands(SweetWraps x, int lane, int tick, int reason) {
        Check.due("stands(" + lane + ", 0)", x.stands(lane, 0), tick);
        Check.due("stands(" + lane + ", 1)", x.stands(lane, 1), reason);
    }

    private static void stands() {
        Check.says("Promise 17", "Tells in which tick from now on, 1 for the next one, a lane stands still for the first "
                + "time, if nothing else is done.");
        standsForHopper();
        standsForTin();
        standsForFoil();
        standsByOtherLanes();
        standsFromNowOn();
        Check.says("Promise 17", "- `what`: 0 in which tick, 1 the reason");
        SweetWraps x = Given.slowWithTins(1);
        x.heap(2, 0, 5);
        x.foil(2, 12);
        Check.due("tick", x.stands(2, 0), 5);
        Check.due("reason", x.stands(2, 1), 3);
        Check.says("Promise 17", "Returns the number;");
        for (int lane = 0; lane < 4; lane++) dueStands(x, lane, lane == 2 ? 5 : 1, lane == 2 ? 3 : 1);
        Check.says("Promise 17", "NO_SUCH if there is no such lane;");
        for (int what = -1; what < 3; what++) {
            Check.due("lane 4", x.stands(4, what), -1);
            for (int lane : Given.FAR_OUT) Check.due("far out", x.stands(lane, what), -1);
        }
        Check.says("Promise 17", "BAD_VALUE if what is neither;");
        for (int lane = 0; lane < 4; lane++) {
            Check.due("2", x.stands(lane, 2), -2);
            for (int what : Given.FAR_OUT) Check.due("far out", x.stands(lane, what), -2);
        }
        notWithin200();
    }

    private static void standsForHopper() {
        SweetWraps x = new SweetWraps();
        x.set(SweetWraps.TEAR, 60);
        dueStands(x, 1, 1, 1);
        x.tin();
        x.foil(1, 99);
        dueStands(x, 1, 1, 1);
        for (int sweets = 1; sweets <= 9; sweets++) {
            x.heap(1, sweets % 2, 1);
            if (sweets < 7) dueStands(x, 1, sweets / 3 + 1, 1);
        }
    }

    private static void standsForTin() {
        SweetWraps x = new SweetWraps();
        x.set(SweetWraps.TEAR, 60);
        x.heap(1, 0, 99);
        x.foil(1, 300);
        dueStands(x, 1, 1, 2);
        x.tin();
        dueStands(x, 1, 5, 2);
        x.set(SweetWraps.ROOM, 11);
        dueStands(x, 1, 4, 2);
        x.tin();
        dueStands(x, 1, 8, 2);
        x = Given.slowWithTins(1);
        x.heap(1, 0, 4);
        x.heap(1, 5, 4);
        x.foil(1, 99);
        x.apart(0, 5);
        dueStands(x, 1, 5, 2);
    }

    private static void standsForFoil() {
        SweetWraps x = new SweetWraps();
        x.set(SweetWraps.TEAR, 60);
        x.set(SweetWraps.ROOM, 99);
        x.tin();
        x.heap(1, 0, 99);
        dueStands(x, 1, 1, 3);
        x.foil(1, 9);
        dueStands(x, 1, 2, 3);
        x.foil(1, 2);
        dueStands(x, 1, 2, 3);
        x.foil(1, 7);
        dueStands(x, 1, 3, 3);
        x.set(SweetWraps.TWIST, 2);
        dueStands(x, 1, 2, 3);
    }

    /** Lanes with lower numbers fill the tins first; the reason is that of the first time, not of later ones. */
    private static void standsByOtherLanes() {
        SweetWraps x = Given.slowWithTins(1);
        for (int lane = 0; lane < 4; lane++) {
            x.heap(lane, lane, 99);
            x.foil(lane, 99);
        }
        dueStands(x, 0, 4, 2);
        dueStands(x, 3, 4, 2);
        x.set(SweetWraps.ROOM, 14);
        dueStands(x, 1, 5, 2);
        dueStands(x, 2, 4, 2);
        x = Given.slowWithTins(1);
        x.heap(0, 0, 99);
        x.foil(0, 99);
        x.heap(1, 0, 9);
        dueStands(x, 1, 1, 3);
        x.foil(1, 6);
        dueStands(x, 1, 3, 3);
    }

    private static void standsFromNowOn() {
        SweetWraps x = Given.slowWithTins(1);
        x.heap(3, 0, 8);
        x.foil(3, 99);
        for (int tick = 9; tick >= 1; tick--) {
            dueStands(x, 3, tick, 1);
            x.run(1);
        }
        dueStands(x, 3, 1, 1);
        x.heap(3, 1, 2);
        dueStands(x, 3, 3, 1);
    }

    private static void notWithin200() {
        Check.says("Promise 17", "NONE if not within 200.");
        SweetWraps x = Given.longRun();
        dueStands(x, 0, -6, -6);
        // pulls 60, 120 and 180 are torn, so 199 ticks wrap 196 sweets
        x = Given.slowWithTins(3);
        x.set(SweetWraps.ROOM, 99);
        x.foil(2, 999);
        x.heap(2, 0, 195);
        dueStands(x, 2, 199, 1);
        x.heap(2, 0, 1);
        dueStands(x, 2, 200, 1);
        x.heap(2, 0, 1);
        dueStands(x, 2, -6, -6);
        dueStands(x, 0, 1, 1);
        x.run(1);
        dueStands(x, 2, 200, 1);
        x = Given.slowWithTins(3);
        x.set(SweetWraps.ROOM, 99);
        x.heap(2, 0, 200);
        x.heap(2, 1, 100);
        x.foil(2, 597);
        dueStands(x, 2, 200, 3);
        x.foil(2, 3);
        dueStands(x, 2, -6, -6);
    }

    // ---- promise 18

    private static void dueBest(SweetWraps x, int ticks, int speed, int sweets) {
        Check.due("bestSpeed(" + ticks + ", 0)", x.bestSpeed(ticks, 0), speed);
        Check.due("bestSpeed(" + ticks + ", 1)", x.bestSpeed(ticks, 1), sweets);
    }

    private static void bestSpeed() {
        Check.says("Promise 18", "Finds the SPEED by which the most sweets are wrapped in some ticks from now on, "
                + "of several the least.");
        ofSeveralTheLeast();
        tornByItsOwnSpeed();
        fromNowOn();
        Check.says("Promise 18", "- `ticks`: 1 to 50");
        SweetWraps x = Given.longRun();
        dueBest(x, 1, 9, 8);
        dueBest(x, 50, 9, 375);
        Check.says("Promise 18", "- `what`: 0 the speed, 1 how many sweets");
        x = Given.slowWithTins(1);
        x.heap(0, 0, 7);
        x.foil(0, 99);
        Check.due("speed", x.bestSpeed(2, 0), 4);
        Check.due("sweets", x.bestSpeed(2, 1), 7);
        Check.says("Promise 18", "Returns the number;");
        for (int ticks = 1; ticks <= 50; ticks++) {
            Check.due("sweets in " + ticks, x.bestSpeed(ticks, 1), 7);
            Check.due("speed for " + ticks, x.bestSpeed(ticks, 0), (6 + ticks) / ticks);
        }
        Check.says("Promise 18", "BAD_VALUE if ticks or what is out of range.");
        for (int what = -1; what < 3; what++) {
            Check.due("0 ticks", x.bestSpeed(0, what), -2);
            Check.due("51 ticks", x.bestSpeed(51, what), -2);
            for (int ticks : Given.FAR_OUT) Check.due("far out", x.bestSpeed(ticks, what), -2);
        }
        Check.due("what 2", x.bestSpeed(1, 2), -2);
        for (int what : Given.FAR_OUT) Check.due("far out", x.bestSpeed(1, what), -2);
    }

    private static void ofSeveralTheLeast() {
        SweetWraps x = Given.slow();
        dueBest(x, 1, 1, 0);
        dueBest(x, 50, 1, 0);
        x.tin();
        x.heap(0, 0, 5);
        x.foil(0, 99);
        for (int ticks = 1; ticks <= 5; ticks++) dueBest(x, ticks, (4 + ticks) / ticks, 5);
        dueBest(x, 50, 1, 5);
        x.set(SweetWraps.SPEED, 9);
        dueBest(x, 3, 2, 5);
        Check.due("SPEED stays", x.count(11), 9);
        x.set(SweetWraps.ROOM, 3);
        dueBest(x, 1, 3, 3);
    }

    /** In a tick of SPEED s a pull tears by TEAR / s, so that more tries may wrap fewer sweets. */
    private static void tornByItsOwnSpeed() {
        SweetWraps x = new SweetWraps();
        x.set(SweetWraps.ROOM, 99);
        x.tin();
        x.heap(0, 0, 200);
        x.foil(0, 60);
        // 20 pulls: 19 18 17 16 15 14 10 10 10 are wrapped by speeds 1 to 9
        dueBest(x, 50, 1, 19);
        dueBest(x, 20, 1, 19);
        dueBest(x, 19, 1, 19);
        dueBest(x, 18, 1, 18);
        dueBest(x, 10, 2, 18);
        dueBest(x, 5, 4, 16);
        dueBest(x, 1, 9, 5);
        x.foil(0, 900);
        dueBest(x, 2, 9, 9);
        x.set(SweetWraps.TEAR, 4);
        dueBest(x, 1, 9, 5);
        x.set(SweetWraps.TEAR, 36);
        // one tick: 36 18 12 9 7 6 5 4 4 pulls until a tear, so 1 2 3 4 5 5 6 6 7
        dueBest(x, 1, 9, 7);
        x.set(SweetWraps.ROOM, 6);
        dueBest(x, 1, 7, 6);
    }

    /** Pulls so far count: if 5 are done, the next one is the sixth. */
    private static void fromNowOn() {
        SweetWraps x = Given.slowWithTins(2);
        x.heap(0, 0, 100);
        x.foil(0, 999);
        dueBest(x, 1, 9, 8);
        x.run(5);
        // pulls 6 to 13 and 6 to 14 by speeds 8 and 9: 7 alone is torn, and 6 and 12
        dueBest(x, 1, 8, 7);
        x.set(SweetWraps.TEAR, 6);
        // every second one is torn: 8 tries wrap 7, 9, 11 and 13
        dueBest(x, 1, 8, 4);
        Check.due("ticks as before", x.count(0), 5);
    }

    // ---- promise 19

    private static void ifApart() {
        Check.says("Promise 19", "Tells how many sweets would be wrapped in some ticks from now on, if two flavours were "
                + "kept apart (whatever tins have now), or not any more, if they are.");
        SweetWraps x = Given.slowWithTins(1);
        x.heap(0, 0, 2);
        x.heap(0, 1, 3);
        x.foil(0, 99);
        Check.due("apart: 0 alone", x.ifApart(0, 1, 9), 2);
        Check.due("the other way", x.ifApart(1, 0, 9), 2);
        Check.due("another pair: all", x.ifApart(1, 2, 9), 5);
        x.apart(0, 1);
        Check.due("they are: not any more", x.ifApart(0, 1, 9), 5);
        Check.due("the other way", x.ifApart(1, 0, 9), 5);
        Check.due("another pair: as it is", x.ifApart(1, 2, 9), 2);
        Check.due("they still are", x.flavour(0, 3), 2);
        whateverTinsHave();
        Check.says("Promise 19", "- `ticks`: 1 to 50");
        x = Given.longRun();
        for (int ticks = 1; ticks <= 50; ticks++) Check.due("ticks", x.ifApart(4, 5, ticks), ticks);
        Check.says("Promise 19", "Returns how many;");
        x.set(SweetWraps.SPEED, 4);
        Check.due("by the SPEED that is set", x.ifApart(4, 5, 3), 12);
        x.heap(3, 3, 2);
        x.foil(3, 9);
        Check.due("of all lanes", x.ifApart(4, 5, 3), 14);
        x.run(1);
        Check.due("from now on", x.ifApart(4, 5, 3), 12 - 1);
        Check.says("Promise 19", "NO_SUCH if there is no such flavour;");
        Check.due("6 first", x.ifApart(6, 0, 1), -1);
        Check.due("6 last", x.ifApart(0, 6, 1), -1);
        Check.due("6 both", x.ifApart(6, 6, 0), -1);
        for (int flavour : Given.FAR_OUT) {
            Check.due("far out first", x.ifApart(flavour, 0, 1), -1);
            Check.due("far out last", x.ifApart(0, flavour, 1), -1);
        }
        Check.says("Promise 19", "BAD_VALUE if both are the same, or ticks is out of range.");
        for (int flavour = 0; flavour < 6; flavour++) Check.due("the same", x.ifApart(flavour, flavour, 1), -2);
        Check.due("0 ticks", x.ifApart(0, 1, 0), -2);
        Check.due("51 ticks", x.ifApart(0, 1, 51), -2);
        for (int ticks : Given.FAR_OUT) Check.due("far out", x.ifApart(0, 1, ticks), -2);
    }

    private static void whateverTinsHave() {
        SweetWraps x = Given.slowWithTins(1);
        Given.wrap(x, 0, 0, 1);
        Given.wrap(x, 0, 1, 1);
        x.heap(0, 0, 1);
        x.heap(1, 1, 1);
        x.heap(2, 2, 1);
        for (int lane = 0; lane < 3; lane++) x.foil(lane, 9);
        Check.due("apart() would not be possible", x.apart(0, 1), -5);
        Check.due("the tin takes 2 alone then", x.ifApart(0, 1, 5), 1);
        Check.due("it takes 0 and 1 if 1 and 2 were apart", x.ifApart(1, 2, 5), 2);
        Check.due("all, if others were", x.ifApart(4, 5, 5), 3);
        x.tin();
        x.heap(0, 1, 4);
        Check.due("the other tin takes 0, not 1", x.ifApart(0, 1, 9), 2);
        Check.due("0 and 1 are not apart", x.flavour(0, 3) + x.flavour(1, 3), 0);
        Check.due("what tins have stays", x.ofTin(0, 2), 3);
    }

    // ---- promise 20

    private static void tinsFor() {
        Check.says("Promise 20", "Tells how many tins of ROOM sweets all sweets in hoppers need, at the least, "
                + "if each tin has sweets of one flavour alone.");
        SweetWraps x = new SweetWraps();
        Check.due("none", x.tinsFor(), 0);
        int[] due = {1, 1, 1, 2, 2, 2, 3};
        for (int sweets = 1; sweets <= 7; sweets++) {
            x.set(SweetWraps.ROOM, 3);
            x.heap(0, 0, 1);
            Check.due(sweets + " in 3s", x.tinsFor(), due[sweets - 1]);
        }
        x.heap(1, 0, 2);
        Check.due("of two lanes, together", x.tinsFor(), 3);
        x.heap(1, 1, 1);
        x.heap(1, 0, 1);
        Check.due("of two heaps, together", x.tinsFor(), 5);
        x.heap(2, 5, 4);
        Check.due("a flavour for itself", x.tinsFor(), 7);
        Check.says("Promise 20", "Returns how many.");
        x.set(SweetWraps.ROOM, 1);
        Check.due("a tin a sweet", x.tinsFor(), 15);
        x.set(SweetWraps.ROOM, 99);
        Check.due("a tin a flavour", x.tinsFor(), 3);
        for (int tin = 0; tin < 16; tin++) x.tin();
        Check.due("whatever tins there are", x.tinsFor(), 3);
        x.apart(0, 1);
        Check.due("whatever is apart", x.tinsFor(), 3);
        x.foil(1, 9);
        x.foil(2, 99);
        x.run(4);
        x.set(SweetWraps.ROOM, 4);
        Check.due("what is wrapped needs none: 8 of 0 are left", x.tinsFor(), 2);
        dueTinsForFullHoppers();
    }

    private static void dueTinsForFullHoppers() {
        SweetWraps x = new SweetWraps();
        for (int lane = 0; lane < 4; lane++) {
            for (int i = 0; i < 4; i++) x.heap(lane, lane, 200);
            x.heap(lane, lane, 199);
        }
        Check.due("999 in 12s, four times", x.tinsFor(), 4 * 84);
        x.set(SweetWraps.ROOM, 1);
        Check.due("3996", x.tinsFor(), 3996);
        x.set(SweetWraps.ROOM, 99);
        Check.due("999 in 99s, four times", x.tinsFor(), 4 * 11);
    }
}
