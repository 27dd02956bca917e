/** Walks of some 290 steps on fresh objects, which stay below 512 calls, each answer held against the model's. All promises. */
public final class ModelTest {
    private static final int WALKS = 800, STEPS = 290;

    private long seed;
    private final SweetWraps x = new SweetWraps();
    private final Model model = new Model();
    private final int wrongs;
    private final boolean busy;

    /** Some walks ask mostly wrongly, some hardly ever; some first fill the lanes. */
    private ModelTest(int walk) {
        seed = walk * 7919L + 17;
        wrongs = new int[] {1, 5, 25}[walk % 3];
        busy = walk % 2 == 0;
    }

    public static void main(String[] args) {
        for (int walk = 0; walk < WALKS; walk++) new ModelTest(walk).walk();
        Check.finish();
    }

    private int below(int bound) {
        seed = seed * 6364136223846793005L + 1442695040888963407L;
        return (int) ((seed >>> 33) % bound);
    }

    /** A value from least to most, often an end of it, now and then one outside. */
    private int from(int least, int most) {
        if (below(100) < wrongs) {
            int[] outside = {least - 1, most + 1, -1, Integer.MIN_VALUE, Integer.MAX_VALUE, most + 256};
            return outside[below(outside.length)];
        }
        int kind = below(8);
        return kind == 0 ? least : kind == 1 ? most : least + below(most - least + 1);
    }

    private void walk() {
        for (int call = 0; call < STEPS; call++) {
            int kind = below(100);
            if (busy && call < 30) kind = below(40);
            if (kind < 46) change(kind);
            else if (kind < 72) ask(kind - 46);
            else if (kind < 80) askWhatIf(kind - 72);
            else if (kind < 92) text();
            else step(kind - 92);
        }
        Check.due("fault at the end", x.fault(), model.fault());
        for (int what = 0; what < 17; what++) dueCount(what);
        for (int undone = 0; undone < 7; undone++) {
            Check.due("undo() at the end", x.undo(), model.undo());
            for (int what = 0; what < 17; what++) dueCount(what);
        }
    }

    private void dueCount(int what) {
        Check.due("count(" + what + ")", x.count(what), model.count(what));
    }

    private void change(int kind) {
        int a;
        int b;
        int c;
        if (kind < 10) {
            a = from(0, 3);
            b = from(0, 5);
            c = below(3) == 0 ? from(1, 200) : from(1, 20);
            Check.due("heap(" + a + ", " + b + ", " + c + ")", x.heap(a, b, c), model.heap(a, b, c));
        } else if (kind < 20) {
            a = from(0, 3);
            b = from(1, 999);
            Check.due("foil(" + a + ", " + b + ")", x.foil(a, b), model.foil(a, b));
        } else if (kind < 25) {
            Check.due("tin()", x.tin(), model.tin());
        } else if (kind < 28) {
            a = from(0, 15);
            Check.due("ship(" + a + ")", x.ship(a), model.ship(a));
        } else if (kind < 32) {
            a = from(0, 5);
            b = from(0, 5);
            Check.due("apart(" + a + ", " + b + ")", x.apart(a, b), model.apart(a, b));
        } else if (kind < 36) {
            setOne();
        } else {
            a = below(3) == 0 ? from(1, 99) : from(1, 5);
            Check.due("run(" + a + ")", x.run(a), model.run(a));
        }
    }

    private void setOne() {
        int[][] ranges = {{1, 9}, {4, 60}, {1, 99}, {1, 2}};
        int setting = from(0, 3);
        int known = setting < 0 || setting > 3 ? 0 : setting;
        int value = from(ranges[known][0], ranges[known][1]);
        Check.due("set(" + setting + ", " + value + ")", x.set(setting, value), model.set(setting, value));
    }

    private void ask(int kind) {
        int a = from(0, 3);
        int b = from(0, 7);
        int tin = from(0, Math.max(0, model.now.tins.size() - 1));
        int flavour = from(0, 5);
        int small = from(0, 3);
        if (kind < 7) {
            Check.due("of(" + a + ", " + b + ")", x.of(a, b), model.of(a, b));
        } else if (kind < 10) {
            int what = from(0, 1);
            b = from(0, 2);
            Check.due("ofHeap(" + a + ", " + b + ", " + what + ")", x.ofHeap(a, b, what), model.ofHeap(a, b, what));
        } else if (kind < 14) {
            Check.due("ofTin(" + tin + ", " + small + ")", x.ofTin(tin, small), model.ofTin(tin, small));
        } else if (kind < 16) {
            Check.due("inTin(" + tin + ", " + flavour + ")", x.inTin(tin, flavour), model.inTin(tin, flavour));
        } else if (kind < 18) {
            Check.due("flavour(" + flavour + ", " + small + ")", x.flavour(flavour, small), model.flavour(flavour, small));
        } else if (kind < 20) {
            Check.due("byRoom(" + tin + ")", x.byRoom(tin), model.byRoom(tin));
        } else if (kind < 22) {
            Check.due("byCount(" + flavour + ")", x.byCount(flavour), model.byCount(flavour));
        } else {
            dueCount(from(0, 16));
        }
    }

    private void askWhatIf(int kind) {
        int lane = from(0, 3);
        int what = from(0, 1);
        int ticks = from(1, 50);
        int flavour = from(0, 5);
        int other = from(0, 5);
        if (kind < 3) {
            Check.due("stands(" + lane + ", " + what + ")", x.stands(lane, what), model.stands(lane, what));
        } else if (kind < 5) {
            Check.due("bestSpeed(" + ticks + ", " + what + ")", x.bestSpeed(ticks, what), model.bestSpeed(ticks, what));
        } else if (kind < 7) {
            Check.due("ifApart(" + flavour + ", " + other + ", " + ticks + ")", x.ifApart(flavour, other, ticks),
                    model.ifApart(flavour, other, ticks));
        } else {
            Check.due("tinsFor()", x.tinsFor(), model.tinsFor());
        }
    }

    private void text() {
        int kind = below(10);
        if (kind < 2) {
            Check.due("fault()", x.fault(), model.fault());
        } else if (kind < 5) {
            Check.due("carryOut()", x.carryOut(), model.carryOut());
        } else if (kind == 5) {
            Check.due("wipe()", x.wipe(), model.wipe());
        } else if (kind == 6 && below(100) < wrongs) {
            long number = seed >>> below(56) & -256L >> below(64);
            Check.due("put(" + number + ")", x.put(number), model.put(number));
        } else {
            putText(orders());
        }
    }

    private void putText(String text) {
        for (int from = 0; from < text.length(); from += 8) {
            long number = Check.packed(text.substring(from, Math.min(text.length(), from + 8)));
            Check.due("put(" + number + ")", x.put(number), model.put(number));
        }
    }

    private String orders() {
        StringBuilder text = new StringBuilder(model.pad.isEmpty() || below(4) == 0 ? "" : ";");
        int many = 1 + below(5);
        for (int i = 0; i < many; i++) text.append(i > 0 ? ";" : "").append(order());
        if (below(100) < wrongs) {
            char[] signs = {'h', 'f', 't', 's', 'a', 'r', '.', '*', '+', ';', '0', '9', 'x', '~', '!'};
            text.insert(below(text.length() + 1), signs[below(signs.length)]);
        }
        if (below(100) < wrongs && text.length() > 1) text.deleteCharAt(below(text.length()));
        return text.toString();
    }

    private String order() {
        int lane = below(100) < wrongs ? below(10) : below(4);
        int flavour = below(100) < wrongs ? below(10) : below(6);
        int other = below(100) < wrongs ? below(10) : below(6);
        int number = below(100) < wrongs ? below(1000) : 1 + below(30);
        switch (below(6)) {
            case 0: return "h" + lane + "." + flavour + "*" + number;
            case 1: return "f" + lane + "+" + below(1000);
            case 2: return "t";
            case 3: return "s" + below(16);
            case 4: return "a" + flavour + other;
            default: return "r" + number;
        }
    }

    private void step(int kind) {
        int slot = from(0, 1);
        if (kind < 4) Check.due("undo()", x.undo(), model.undo());
        else if (kind < 6) Check.due("save(" + slot + ")", x.save(slot), model.save(slot));
        else Check.due("restore(" + slot + ")", x.restore(slot), model.restore(slot));
    }
}
