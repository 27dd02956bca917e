/** Each sentence of promises 1 to 8. */
public final class SentencesOfChangesTest {
    public static void main(String[] args) {
        newObject();
        set();
        heap();
        foil();
        tin();
        ship();
        apart();
        run();
        Check.finish();
    }

    /** The last call of a machine that was midway, with four states to undo, was a change, and undo takes it back. */
    private static void dueOneChange(SweetWraps x) {
        Check.due("one state more", x.count(16), 5);
        Check.due("undo", x.undo(), 4);
        Facts.due("as before it", x, Given.midway());
    }

    // ---- promise 1

    private static void newObject() {
        Check.says("Promise 1", "Creates a machine with empty hoppers, without foil and tins.");
        SweetWraps x = new SweetWraps();
        for (int lane = 0; lane < 4; lane++) {
            Check.due("sweets", x.of(lane, 0), 0);
            Check.due("heaps", x.of(lane, 1), 0);
            Check.due("next flavour", x.of(lane, 2), -6);
            Check.due("foil", x.of(lane, 3), 0);
            for (int what = 4; what < 7; what++) Check.due("what it did", x.of(lane, what), 0);
            Check.due("reason", x.of(lane, 7), 1);
            Check.due("heap 0", x.ofHeap(lane, 0, 0), -1);
        }
        int[] numbers = {0, 0, 0, 0, 0, 0, 0, 0, 0, 0, 15, 3, 20, 12, 1, 0, 0};
        for (int what = 0; what < 17; what++) Check.due("count(" + what + ")", x.count(what), numbers[what]);
        Check.due("tin 0", x.ofTin(0, 0), -1);
        Check.due("no tin by room", x.byRoom(0), -1);
        Check.due("no flavour by count", x.byCount(0), -1);
        Check.due("no tins are needed", x.tinsFor(), 0);
        Check.due("the pad is empty", x.fault(), 0);
        Check.due("no history", x.undo(), -5);
        Check.due("slot 0 is empty", x.restore(0), -5);
        Check.due("slot 1 is empty", x.restore(1), -5);
        SweetWraps other = Given.midway();
        other.save(0);
        Check.due("objects share nothing: slots", x.restore(0), -5);
        for (int what = 0; what < 17; what++) Check.due("objects share nothing", x.count(what), numbers[what]);
    }

    // ---- promise 2

    private static void set() {
        Check.says("Promise 2", "Changes a setting.");
        for (int setting = 0; setting < 4; setting++) {
            SweetWraps x = new SweetWraps();
            int value = setting == SweetWraps.TWIST ? 2 : 7;
            x.set(setting, value);
            for (int other = 0; other < 4; other++) {
                Check.due("setting " + other, x.count(11 + other), other == setting ? value : Given.FIRST[other]);
            }
        }
        Check.says("Promise 2", "This is a change.");
        SweetWraps x = Given.midway();
        x.set(SweetWraps.TEAR, 4);
        dueOneChange(x);
        x = new SweetWraps();
        x.set(SweetWraps.SPEED, 3);
        Check.due("also if it is the same value", x.count(16), 1);
        previousValue();
        badSettings();
    }

    private static void previousValue() {
        Check.says("Promise 2", "Returns the previous value;");
        for (int setting = 0; setting < 4; setting++) {
            SweetWraps x = new SweetWraps();
            Check.due("the first one", x.set(setting, Given.MOST[setting]), Given.FIRST[setting]);
            Check.due("the one that was set", x.set(setting, Given.LEAST[setting]), Given.MOST[setting]);
            Check.due("not one that is refused", x.set(setting, Given.MOST[setting] + 1), -2);
            Check.due("the one that was set last", x.set(setting, Given.LEAST[setting]), Given.LEAST[setting]);
            x.undo();
            x.undo();
            Check.due("the one that undo brought back", x.set(setting, Given.FIRST[setting]), Given.MOST[setting]);
        }
    }

    private static void badSettings() {
        Check.says("Promise 2", "BAD_VALUE if there is no such setting,");
        SweetWraps x = new SweetWraps();
        for (int value : new int[] {1, 2, 4, 5, 9}) {
            for (int setting : Given.FAR_OUT) Check.due("setting " + setting, x.set(setting, value), -2);
            Check.due("setting 4", x.set(4, value), -2);
        }
        Check.due("no change", x.count(16), 0);
        Check.says("Promise 2", "or the value is out of its range.");
        for (int setting = 0; setting < 4; setting++) {
            Check.due("one below", x.set(setting, Given.LEAST[setting] - 1), -2);
            Check.due("one above", x.set(setting, Given.MOST[setting] + 1), -2);
            for (int value : Given.FAR_OUT) Check.due("far out", x.set(setting, value), -2);
            Check.due("as at first", x.count(11 + setting), Given.FIRST[setting]);
        }
    }

    // ---- promise 3

    private static void heap() {
        comesBehind();
        comesToTheLast();
        Check.says("Promise 3", "This is a change.");
        SweetWraps x = Given.midway();
        x.heap(0, 3, 5);
        dueOneChange(x);
        manyOfAHeap();
        sweetsOfTheHopper();
        noSuchLaneOrFlavour();
        seventhHeap();
        thousandSweets();
    }

    private static void comesBehind() {
        Check.says("Promise 3", "A heap of sweets comes into the hopper of a lane, behind the others;");
        SweetWraps x = new SweetWraps();
        x.heap(2, 4, 7);
        x.heap(2, 0, 9);
        x.heap(2, 4, 11);
        int[] due = {4, 7, 0, 9, 4, 11};
        for (int heap = 0; heap < 3; heap++) {
            Check.due("flavour of heap " + heap, x.ofHeap(2, heap, 0), due[2 * heap]);
            Check.due("sweets of heap " + heap, x.ofHeap(2, heap, 1), due[2 * heap + 1]);
        }
        Check.due("three heaps", x.of(2, 1), 3);
        Check.due("the first one is next", x.of(2, 2), 4);
        for (int lane = 0; lane < 4; lane++) Check.due("no other lane", x.of(lane, 0), lane == 2 ? 27 : 0);
    }

    private static void comesToTheLast() {
        Check.says("Promise 3", "if the last one there is of the same flavour, they come to that one.");
        SweetWraps x = new SweetWraps();
        x.heap(0, 1, 2);
        x.heap(0, 1, 3);
        Check.due("one heap", x.of(0, 1) * 10 + x.ofHeap(0, 0, 1), 15);
        x.heap(0, 2, 1);
        x.heap(0, 1, 4);
        Check.due("the first one is not the last one", x.of(0, 1), 3);
        Check.due("the first one is as it was", x.ofHeap(0, 0, 1), 5);
        x.heap(0, 1, 6);
        Check.due("to the third, which is the last one", x.of(0, 1) * 100 + x.ofHeap(0, 2, 1), 310);
        x.heap(1, 1, 6);
        Check.due("not to the last one of another lane", x.ofHeap(0, 2, 1) * 10 + x.ofHeap(1, 0, 1), 106);
        x = Given.slowWithTins(1);
        x.heap(2, 1, 5);
        x.foil(2, 6);
        x.run(2);
        x.heap(2, 1, 4);
        Check.due("to one that is wrapped in part", x.of(2, 1) * 10 + x.ofHeap(2, 0, 1), 17);
        x = Given.slowWithTins(1);
        Given.wrap(x, 0, 1, 2);
        x.heap(0, 1, 3);
        Check.due("not to one that is gone", x.of(0, 1) * 10 + x.ofHeap(0, 0, 1), 13);
        x.undo();
        x.heap(0, 1, 4);
        Check.due("nor to one that is undone", x.of(0, 1) * 10 + x.ofHeap(0, 0, 1), 14);
    }

    private static void manyOfAHeap() {
        Check.says("Promise 3", "- `many`: 1 to 200");
        SweetWraps x = new SweetWraps();
        Check.due("1", x.heap(0, 0, 1), 1);
        Check.due("200", x.heap(0, 1, 200), 201);
        Check.says("Promise 3", "BAD_VALUE if many is out of range;");
        Check.due("0", x.heap(0, 0, 0), -2);
        Check.due("201", x.heap(0, 0, 201), -2);
        for (int many : Given.FAR_OUT) Check.due("far out", x.heap(1, 0, many), -2);
        Check.due("nothing came", x.count(4), 201);
    }

    private static void sweetsOfTheHopper() {
        Check.says("Promise 3", "Returns how many sweets the hopper has then;");
        SweetWraps x = Given.slowWithTins(1);
        Check.due("the first heap", x.heap(3, 0, 10), 10);
        Check.due("all heaps, not the last one", x.heap(3, 1, 20), 30);
        Check.due("with those that came to it", x.heap(3, 1, 5), 35);
        Check.due("not of other lanes", x.heap(2, 1, 5), 5);
        x.foil(3, 6);
        x.run(9);
        Check.due("not those that were wrapped", x.heap(3, 2, 1), 34);
    }

    private static void noSuchLaneOrFlavour() {
        Check.says("Promise 3", "NO_SUCH if there is no such lane or flavour;");
        SweetWraps x = new SweetWraps();
        Check.due("lane 4", x.heap(4, 0, 1), -1);
        Check.due("flavour 6", x.heap(0, 6, 1), -1);
        for (int wrong : Given.FAR_OUT) {
            Check.due("lane", x.heap(wrong, 0, 1), -1);
            Check.due("flavour", x.heap(0, wrong, 1), -1);
            Check.due("both", x.heap(wrong, wrong, wrong), -1);
        }
        Check.due("flavour 5 of lane 3", x.heap(3, 5, 1), 1);
    }

    private static void seventhHeap() {
        Check.says("Promise 3", "TOO_MANY if one more heap would be needed and there are 6,");
        SweetWraps x = Given.slowWithTins(1);
        for (int heap = 0; heap < 6; heap++) Check.due("heap " + heap, x.heap(1, heap % 2, 1), heap + 1);
        Check.due("a seventh", x.heap(1, 0, 1), -4);
        Check.due("a seventh of a new flavour", x.heap(1, 5, 1), -4);
        Check.due("none is needed", x.heap(1, 1, 4), 10);
        Check.due("another lane", x.heap(0, 0, 1), 1);
        x.foil(1, 3);
        x.run(1);
        Check.due("one is gone", x.of(1, 1), 5);
        Check.due("a sixth", x.heap(1, 0, 1), 10);
        Check.due("a seventh again", x.heap(1, 1, 1), -4);
        Check.due("10 sweets", x.of(1, 0), 10);
    }

    private static void thousandSweets() {
        Check.says("Promise 3", "or it would have more than 999 sweets.");
        SweetWraps x = Given.slowWithTins(1);
        for (int i = 1; i <= 4; i++) x.heap(1, 0, 200);
        Check.due("1000 in one heap", x.heap(1, 0, 200), -4);
        Check.due("1000 in two heaps", x.heap(1, 1, 200), -4);
        Check.due("one heap", x.of(1, 1), 1);
        Check.due("998 in two heaps", x.heap(1, 1, 198), 998);
        Check.due("1000 by 2", x.heap(1, 1, 2), -4);
        Check.due("999 in three heaps", x.heap(1, 0, 1), 999);
        Check.due("1000 by 1", x.heap(1, 0, 1), -4);
        Check.due("1000 by a new heap", x.heap(1, 5, 1), -4);
        Check.due("another lane", x.heap(2, 0, 200), 200);
        x.foil(1, 3);
        x.run(1);
        Check.due("one less", x.heap(1, 0, 1), 999);
    }

    // ---- promise 4

    private static void foil() {
        Check.says("Promise 4", "Foil comes to a lane.");
        SweetWraps x = new SweetWraps();
        x.foil(2, 40);
        x.foil(2, 7);
        for (int lane = 0; lane < 4; lane++) Check.due("lane " + lane, x.of(lane, 3), lane == 2 ? 47 : 0);
        Check.due("none is pulled", x.count(8), 0);
        Check.says("Promise 4", "This is a change.");
        x = Given.midway();
        x.foil(2, 8);
        dueOneChange(x);
        lengthOfFoil();
        foilThen();
        foilOfNoLane();
        foilAbove9999();
    }

    private static void lengthOfFoil() {
        Check.says("Promise 4", "- `length`: 1 to 999");
        SweetWraps x = new SweetWraps();
        Check.due("1", x.foil(0, 1), 1);
        Check.due("999", x.foil(0, 999), 1000);
        Check.says("Promise 4", "BAD_VALUE if length is out of range;");
        Check.due("0", x.foil(0, 0), -2);
        for (int length : Given.FAR_OUT) Check.due("far out", x.foil(1, length), -2);
        Check.due("nothing came", x.count(7), 1000);
    }

    private static void foilThen() {
        Check.says("Promise 4", "Returns how much it has then;");
        SweetWraps x = Given.slowWithTins(1);
        Check.due("at first", x.foil(3, 10), 10);
        Check.due("with what it had", x.foil(3, 20), 30);
        Check.due("not of other lanes", x.foil(0, 5), 5);
        x.heap(3, 0, 2);
        x.run(9);
        Check.due("without what was pulled", x.foil(3, 1), 25);
    }

    private static void foilOfNoLane() {
        Check.says("Promise 4", "NO_SUCH if there is no such lane;");
        SweetWraps x = new SweetWraps();
        Check.due("lane 4", x.foil(4, 1), -1);
        for (int lane : Given.FAR_OUT) Check.due("far out", x.foil(lane, 1), -1);
        for (int lane = 0; lane < 4; lane++) Check.due("lane " + lane, x.foil(lane, 1), 1);
    }

    private static void foilAbove9999() {
        Check.says("Promise 4", "TOO_MANY if it would have more than 9999.");
        SweetWraps x = Given.slowWithTins(1);
        for (int i = 1; i <= 10; i++) Check.due("foil", x.foil(0, 999), 999 * i);
        Check.due("10989", x.foil(0, 999), -4);
        Check.due("10000", x.foil(0, 10), -4);
        Check.due("9998", x.foil(0, 8), 9998);
        Check.due("10000 by 2", x.foil(0, 2), -4);
        Check.due("9999", x.foil(0, 1), 9999);
        Check.due("10000 by 1", x.foil(0, 1), -4);
        Check.due("another lane", x.foil(1, 999), 999);
        x.heap(0, 0, 1);
        x.run(1);
        Check.due("what was pulled is no more there", x.foil(0, 3), 9999);
        Check.due("10000 again", x.foil(0, 1), -4);
    }

    // ---- promise 5

    private static void tin() {
        Check.says("Promise 5", "A tin comes, open and empty.");
        SweetWraps x = new SweetWraps();
        x.tin();
        Check.due("no sweets", x.ofTin(0, 0), 0);
        Check.due("open", x.ofTin(0, 1), 0);
        Check.due("no flavours", x.ofTin(0, 2), 0);
        Check.due("takes all", x.ofTin(0, 3), 63);
        for (int flavour = 0; flavour < 6; flavour++) Check.due("of a flavour", x.inTin(0, flavour), 0);
        x = Given.slowWithTins(1);
        Given.wrap(x, 0, 3, 5);
        x.ship(0);
        x.undo();
        x.undo();
        for (int i = 0; i < 3; i++) x.undo();
        Check.due("the tin is undone", x.count(1), 0);
        x.tin();
        Check.due("a new one is empty again", x.ofTin(0, 0) + x.ofTin(0, 2) + x.inTin(0, 3), 0);
        Check.due("and open", x.ofTin(0, 1), 0);
        Check.says("Promise 5", "This is a change.");
        x = Given.midway();
        x.tin();
        dueOneChange(x);
        numbersOfTins();
    }

    private static void numbersOfTins() {
        Check.says("Promise 5", "Returns its number;");
        SweetWraps x = new SweetWraps();
        for (int tin = 0; tin < 16; tin++) {
            Check.due("number", x.tin(), tin);
            Check.due("there is none behind it", x.ofTin(tin + 1, 0), -1);
        }
        Check.says("Promise 5", "TOO_MANY if there have been 16.");
        Check.due("a seventeenth", x.tin(), -4);
        Check.due("an eighteenth", x.tin(), -4);
        Check.due("sixteen", x.count(1), 16);
        x.undo();
        Check.due("the sixteenth again", x.tin(), 15);
        x = Given.slowWithTins(16);
        Given.wrap(x, 0, 0, 1);
        x.ship(0);
        Check.due("shipped ones have been, too", x.tin(), -4);
    }

    // ---- promise 6

    private static void ship() {
        Check.says("Promise 6", "Ships a tin.");
        SweetWraps x = Given.slowWithTins(3);
        Given.wrap(x, 0, 0, 2);
        x.apart(0, 1);
        Given.wrap(x, 0, 1, 3);
        x.ship(1);
        for (int tin = 0; tin < 3; tin++) Check.due("shipped", x.ofTin(tin, 1), tin == 1 ? 1 : 0);
        Check.due("it keeps its sweets", x.inTin(1, 1), 3);
        Check.due("it takes none any more", x.ofTin(1, 3), 0);
        Given.wrap(x, 0, 1, 1);
        Check.due("the next one takes it", x.inTin(2, 1), 1);
        Check.says("Promise 6", "This is a change.");
        x = Given.midway();
        Check.due("a tin with sweets", x.ship(1) > 0 ? 1 : 0, 1);
        dueOneChange(x);
        sweetsShipped();
        noSuchTin();
        shippedOrEmpty();
    }

    private static void sweetsShipped() {
        Check.says("Promise 6", "Returns how many sweets it has;");
        SweetWraps x = Given.slowWithTins(3);
        Given.wrap(x, 0, 0, 12);
        Given.wrap(x, 1, 1, 2);
        Given.wrap(x, 2, 3, 3);
        Check.due("a full one", x.ship(0), 12);
        Check.due("of all flavours", x.ship(1), 5);
        Given.wrap(x, 2, 3, 1);
        Check.due("with one", x.ship(2), 1);
    }

    private static void noSuchTin() {
        Check.says("Promise 6", "NO_SUCH if there is no such tin;");
        SweetWraps x = Given.slowWithTins(2);
        for (int tin : Given.FAR_OUT) Check.due("far out", x.ship(tin), -1);
        for (int tin = 2; tin < 18; tin++) Check.due("not come yet", x.ship(tin), -1);
        x.undo();
        Check.due("one that is undone", x.ship(1), -1);
        x = Given.slowWithTins(16);
        Check.due("no seventeenth", x.ship(16), -1);
    }

    private static void shippedOrEmpty() {
        Check.says("Promise 6", "NOT_POSSIBLE if it is shipped, or empty.");
        SweetWraps x = Given.slowWithTins(2);
        Check.due("empty", x.ship(0), -5);
        Given.wrap(x, 0, 0, 1);
        Check.due("the other one is empty", x.ship(1), -5);
        Check.due("with a sweet", x.ship(0), 1);
        Check.due("shipped", x.ship(0), -5);
        x.undo();
        Check.due("the shipping is undone", x.ship(0), 1);
    }

    // ---- promise 7

    private static void apart() {
        keptApartOrNot();
        Check.says("Promise 7", "This is a change.");
        SweetWraps x = Given.midway();
        x.apart(4, 5);
        dueOneChange(x);
        x = Given.midway();
        x.apart(2, 1);
        dueOneChange(x);
        apartAnswers();
        noSuchFlavours();
        sameFlavours();
        tinsWithBoth();
    }

    private static void keptApartOrNot() {
        Check.says("Promise 7", "Keeps two flavours apart, or not any more, if they are.");
        SweetWraps x = Given.slowWithTins(2);
        x.apart(2, 4);
        Check.due("4 from 2", x.flavour(2, 3), 16);
        Check.due("2 from 4", x.flavour(4, 3), 4);
        Given.wrap(x, 0, 2, 1);
        Given.wrap(x, 0, 4, 1);
        Check.due("two tins", x.inTin(0, 2) * 10 + x.inTin(1, 4), 11);
        x.apart(4, 2);
        Check.due("not any more", x.flavour(2, 3) + x.flavour(4, 3), 0);
        Given.wrap(x, 0, 4, 1);
        Check.due("one tin takes both", x.inTin(0, 4), 1);
        x.apart(0, 1);
        x.apart(0, 5);
        x.apart(1, 0);
        Check.due("only the one pair", x.flavour(0, 3) * 100 + x.flavour(5, 3), 3201);
    }

    private static void apartAnswers() {
        Check.says("Promise 7", "Returns 1 if they are kept apart then, otherwise 0;");
        SweetWraps x = new SweetWraps();
        for (int flavour = 0; flavour < 6; flavour++) {
            int other = (flavour + 2) % 6;
            Check.due("apart", x.apart(flavour, other), 1);
            Check.due("not any more", x.apart(flavour, other), 0);
            Check.due("again", x.apart(other, flavour), 1);
            Check.due("not any more, the other way", x.apart(flavour, other), 0);
        }
    }

    private static void noSuchFlavours() {
        Check.says("Promise 7", "NO_SUCH if there is no such flavour;");
        SweetWraps x = new SweetWraps();
        Check.due("6 first", x.apart(6, 0), -1);
        Check.due("6 last", x.apart(0, 6), -1);
        Check.due("6 both", x.apart(6, 6), -1);
        for (int flavour : Given.FAR_OUT) {
            Check.due("far out first", x.apart(flavour, 5), -1);
            Check.due("far out last", x.apart(5, flavour), -1);
            Check.due("far out both", x.apart(flavour, flavour), -1);
        }
        for (int flavour = 0; flavour < 6; flavour++) Check.due("none is apart", x.flavour(flavour, 3), 0);
    }

    private static void sameFlavours() {
        Check.says("Promise 7", "BAD_VALUE if both are the same;");
        SweetWraps x = new SweetWraps();
        for (int flavour = 0; flavour < 6; flavour++) {
            Check.due("the same", x.apart(flavour, flavour), -2);
            Check.due("not apart from itself", x.flavour(flavour, 3), 0);
        }
    }

    private static void tinsWithBoth() {
        Check.says("Promise 7", "NOT_POSSIBLE if they are not kept apart yet, and an open tin has sweets of both.");
        SweetWraps x = Given.slowWithTins(2);
        x.set(SweetWraps.ROOM, 2);
        Given.wrap(x, 0, 0, 1);
        Given.wrap(x, 0, 1, 1);
        Given.wrap(x, 0, 2, 1);
        Check.due("an open tin, though full", x.apart(0, 1), -5);
        Check.due("the other way", x.apart(1, 0), -5);
        Check.due("0 and 2 are in two tins", x.apart(0, 2), 1);
        Check.due("one of both is in none", x.apart(1, 5), 1);
        Check.due("apart from 0", x.flavour(0, 3), 4);
        x.ship(1);
        Check.due("another tin is shipped", x.apart(0, 1), -5);
        x.ship(0);
        Check.due("the tin is shipped", x.apart(0, 1), 1);
        Check.due("they are kept apart: not any more", x.apart(0, 1), 0);
        x.tin();
        Given.wrap(x, 0, 4, 1);
        Given.wrap(x, 0, 3, 1);
        Check.due("a later tin", x.apart(3, 4), -5);
        x = Given.slowWithTins(16);
        x.set(SweetWraps.ROOM, 1);
        for (int tin = 0; tin < 15; tin++) Given.wrap(x, 0, 0, 1);
        x.set(SweetWraps.ROOM, 2);
        x.apart(0, 4);
        x.apart(0, 5);
        Given.wrap(x, 0, 4, 1);
        Given.wrap(x, 0, 5, 1);
        Check.due("the last tin", x.apart(4, 5), -5);
    }

    // ---- promise 8

    private static void run() {
        Check.says("Promise 8", "The machine runs.");
        SweetWraps x = Given.fastWithTins(9);
        for (int lane = 0; lane < 4; lane++) {
            x.heap(lane, lane, 100);
            x.foil(lane, 500);
        }
        x.run(2);
        for (int lane = 0; lane < 4; lane++) {
            Check.due("pulls of lane " + lane, x.of(lane, 4), 18);
            Check.due("torn ones", x.of(lane, 5), 3);
            Check.due("wrapped ones", x.of(lane, 6), 15);
            Check.due("sweets left", x.of(lane, 0), 85);
            Check.due("foil left", x.of(lane, 3), 500 - 54);
        }
        Check.due("ticks", x.count(0), 2);
        Check.due("tins are filled one after the other", x.ofTin(4, 0) * 100 + x.ofTin(5, 0), 1200);
        Check.says("Promise 8", "This is a change.");
        x = Given.midway();
        x.run(3);
        dueOneChange(x);
        x = new SweetWraps();
        x.run(1);
        Check.due("also if all lanes stand", x.count(16), 1);
        ticksOfARun();
        sweetsOfARun();
        boundOfTicks();
    }

    private static void ticksOfARun() {
        Check.says("Promise 8", "- `ticks`: 1 to 99");
        SweetWraps x = Given.slowWithTins(9);
        x.heap(0, 0, 200);
        x.foil(0, 999);
        Check.due("1", x.run(1), 1);
        Check.due("99, with a tear", x.run(99), 98);
        Check.due("ticks", x.count(0), 100);
        Check.says("Promise 8", "BAD_VALUE if ticks is out of range;");
        Check.due("0", x.run(0), -2);
        Check.due("100", x.run(100), -2);
        for (int ticks : Given.FAR_OUT) Check.due("far out", x.run(ticks), -2);
        Check.due("no tick", x.count(0), 100);
    }

    private static void sweetsOfARun() {
        Check.says("Promise 8", "Returns how many sweets are wrapped;");
        SweetWraps x = Given.slowWithTins(1);
        Check.due("none", x.run(1), 0);
        x.heap(1, 0, 3);
        x.heap(3, 1, 9);
        x.foil(1, 99);
        x.foil(3, 99);
        Check.due("of both lanes", x.run(2), 4);
        Check.due("of this run alone, one lane is empty then", x.run(3), 4);
        Check.due("up to the room", x.run(99), 4);
        Check.due("no more", x.run(99), 0);
        x = Given.slowWithTins(1);
        x.set(SweetWraps.TEAR, 4);
        x.heap(0, 0, 9);
        x.foil(0, 99);
        Check.due("not those whose foil is torn", x.run(8), 6);
    }

    private static void boundOfTicks() {
        Check.says("Promise 8", "NOT_POSSIBLE if there would be more than 9999 ticks.");
        SweetWraps x = new SweetWraps();
        for (int i = 0; i < 5; i++) Given.letGo1980(x);
        Check.due("9900 ticks", x.count(0), 9900);
        Check.due("9998", x.run(98), 0);
        Check.due("10000", x.run(2), -5);
        Check.due("10097", x.run(99), -5);
        Check.due("9999", x.run(1), 0);
        Check.due("10000", x.run(1), -5);
        Check.due("9999 ticks", x.count(0), 9999);
        x.undo();
        x.undo();
        Check.due("9999 at once", x.run(99), 0);
        Check.due("no more", x.run(1), -5);
    }
}
