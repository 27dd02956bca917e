/**
 * All that the questions answer of an object, but for the pad and the history, as one text.
 * It takes some 320 calls, so an object has it taken once, and is held against another of the same past.
 */
final class Facts {
    private Facts() {
    }

    static String of(SweetWraps x) {
        StringBuilder facts = new StringBuilder();
        for (int lane = 0; lane < 4; lane++) {
            for (int what = 0; what < 8; what++) add(facts, x.of(lane, what));
            for (int heap = 0; heap < 6; heap++) add(facts, x.ofHeap(lane, heap, 0), x.ofHeap(lane, heap, 1));
            add(facts, x.stands(lane, 0), x.stands(lane, 1));
        }
        for (int tin = 0; tin < 16; tin++) {
            for (int what = 0; what < 4; what++) add(facts, x.ofTin(tin, what));
            for (int flavour = 0; flavour < 6; flavour++) add(facts, x.inTin(tin, flavour));
            add(facts, x.byRoom(tin));
        }
        for (int flavour = 0; flavour < 6; flavour++) {
            for (int what = 0; what < 4; what++) add(facts, x.flavour(flavour, what));
            add(facts, x.byCount(flavour), x.ifApart(flavour, (flavour + 1) % 6, 20));
        }
        for (int what = 0; what < 15; what++) add(facts, x.count(what));
        add(facts, x.bestSpeed(7, 0), x.bestSpeed(7, 1), x.tinsFor());
        return facts.toString();
    }

    /** What a call could spoil besides: the pad, and the states that undo brings back. */
    static String ofPadAndHistory(SweetWraps x) {
        StringBuilder facts = new StringBuilder();
        add(facts, x.count(15), x.fault(), x.count(16));
        for (int undone = 0; undone < 7; undone++) {
            add(facts, x.undo(), x.count(0), x.count(1), x.count(4), x.count(5), x.count(7), x.count(13));
        }
        return facts.toString();
    }

    static void due(String what, SweetWraps got, SweetWraps want) {
        Check.same(what, of(got), of(want));
        Check.same(what + ", pad and history", ofPadAndHistory(got), ofPadAndHistory(want));
    }

    private static void add(StringBuilder facts, int... numbers) {
        for (int number : numbers) facts.append(number).append(' ');
    }
}
