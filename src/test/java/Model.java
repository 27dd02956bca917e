import java.util.ArrayDeque;
import java.util.ArrayList;
import java.util.Arrays;
import java.util.Deque;
import java.util.List;
import java.util.regex.Matcher;
import java.util.regex.Pattern;

/** The document once more, held as plainly as the Java library allows: every sweet is a number in a list. */
final class Model {
    private static final String NUMBER = "(?:0|[1-9][0-9]?[0-9]?)";
    private static final String ORDER = "(?:h[0-9]\\.[0-9]\\*N|f[0-9]\\+N|t|sN|a[0-9][0-9]|rN)".replace("N", NUMBER);
    private static final Pattern TEXT = Pattern.compile(ORDER + "(?:;" + ORDER + ")*");

    static final class State {
        int[] settings = {3, 20, 12, 1};
        List<List<Integer>> hoppers = new ArrayList<>();
        int[] foil = new int[4];
        int[] pulls = new int[4];
        int[] torn = new int[4];
        int[] wrapped = new int[4];
        List<List<Integer>> tins = new ArrayList<>();
        List<Boolean> shipped = new ArrayList<>();
        boolean[][] apart = new boolean[6][6];
        int ticks;
        int pulled;
        int wasted;

        State() {
            for (int lane = 0; lane < 4; lane++) hoppers.add(new ArrayList<>());
        }

        State copy() {
            State copy = new State();
            copy.settings = settings.clone();
            for (int lane = 0; lane < 4; lane++) copy.hoppers.get(lane).addAll(hoppers.get(lane));
            copy.foil = foil.clone();
            copy.pulls = pulls.clone();
            copy.torn = torn.clone();
            copy.wrapped = wrapped.clone();
            for (List<Integer> tin : tins) copy.tins.add(new ArrayList<>(tin));
            copy.shipped.addAll(shipped);
            for (int f = 0; f < 6; f++) copy.apart[f] = apart[f].clone();
            copy.ticks = ticks;
            copy.pulled = pulled;
            copy.wasted = wasted;
            return copy;
        }

        boolean takes(int tin, int flavour) {
            if (shipped.get(tin) || tins.get(tin).size() >= settings[2]) return false;
            for (int sweet : tins.get(tin)) if (apart[sweet][flavour]) return false;
            return true;
        }

        int lowest(int flavour) {
            for (int tin = 0; tin < tins.size(); tin++) if (takes(tin, flavour)) return tin;
            return -1;
        }

        int reason(int lane) {
            if (hoppers.get(lane).isEmpty()) return 1;
            if (lowest(hoppers.get(lane).get(0)) < 0) return 2;
            return foil[lane] < 2 + settings[3] ? 3 : 0;
        }

        /** The reasons for which the lanes stand still in this tick. */
        int[] tick() {
            int[] reasons = new int[4];
            for (int lane = 0; lane < 4; lane++) {
                for (int i = 0; i < settings[0]; i++) {
                    reasons[lane] = reason(lane);
                    if (reasons[lane] != 0) break;
                    attempt(lane);
                }
            }
            ticks++;
            return reasons;
        }

        void attempt(int lane) {
            int length = 2 + settings[3];
            foil[lane] -= length;
            pulled += length;
            pulls[lane]++;
            int period = settings[1] / settings[0];
            if (period < 2) period = 2;
            if (pulls[lane] % period == 0) {
                torn[lane]++;
                wasted += length;
                return;
            }
            int sweet = hoppers.get(lane).remove(0);
            tins.get(lowest(sweet)).add(sweet);
            wrapped[lane]++;
        }

        int work(int many) {
            int before = allWrapped();
            for (int i = 0; i < many; i++) tick();
            return allWrapped() - before;
        }

        int allWrapped() {
            return Arrays.stream(wrapped).sum();
        }

        /** Runs of sweets of a flavour in a hopper. */
        List<int[]> heaps(int lane) {
            List<int[]> heaps = new ArrayList<>();
            int last = -1;
            for (int sweet : hoppers.get(lane)) {
                if (sweet != last) heaps.add(new int[] {sweet, 0});
                last = sweet;
                heaps.get(heaps.size() - 1)[1]++;
            }
            return heaps;
        }

        static int amount(List<Integer> sweets, int flavour) {
            int many = 0;
            for (int sweet : sweets) if (sweet == flavour) many++;
            return many;
        }
    }

    State now = new State();
    String pad = "";
    final Deque<State> history = new ArrayDeque<>();
    final State[] slots = new State[2];

    private static boolean lane(int lane) {
        return lane >= 0 && lane <= 3;
    }

    private static boolean isFlavour(int flavour) {
        return flavour >= 0 && flavour <= 5;
    }

    private boolean isTin(int tin) {
        return tin >= 0 && tin < now.tins.size();
    }

    private int changed(State before, int answer) {
        if (answer >= 0) {
            history.addLast(before);
            if (history.size() > 6) history.removeFirst();
        }
        return answer;
    }

    int set(int setting, int value) {
        return changed(now.copy(), doSet(setting, value));
    }

    private int doSet(int setting, int value) {
        int[][] ranges = {{1, 9}, {4, 60}, {1, 99}, {1, 2}};
        if (setting < 0 || setting > 3 || value < ranges[setting][0] || value > ranges[setting][1]) return -2;
        int previous = now.settings[setting];
        now.settings[setting] = value;
        return previous;
    }

    int heap(int lane, int flavour, int many) {
        return changed(now.copy(), doHeap(lane, flavour, many));
    }

    private int doHeap(int lane, int flavour, int many) {
        if (!lane(lane) || !isFlavour(flavour)) return -1;
        if (many < 1 || many > 200) return -2;
        List<Integer> hopper = now.hoppers.get(lane);
        List<int[]> heaps = now.heaps(lane);
        boolean oneMore = heaps.isEmpty() || heaps.get(heaps.size() - 1)[0] != flavour;
        if (oneMore && heaps.size() == 6 || hopper.size() + many > 999) return -4;
        for (int i = 0; i < many; i++) hopper.add(flavour);
        return hopper.size();
    }

    int foil(int lane, int length) {
        return changed(now.copy(), doFoil(lane, length));
    }

    private int doFoil(int lane, int length) {
        if (!lane(lane)) return -1;
        if (length < 1 || length > 999) return -2;
        if (now.foil[lane] + length > 9999) return -4;
        return now.foil[lane] += length;
    }

    int tin() {
        return changed(now.copy(), doTin());
    }

    private int doTin() {
        if (now.tins.size() == 16) return -4;
        now.tins.add(new ArrayList<>());
        now.shipped.add(false);
        return now.tins.size() - 1;
    }

    int ship(int tin) {
        return changed(now.copy(), doShip(tin));
    }

    private int doShip(int tin) {
        if (!isTin(tin)) return -1;
        if (now.shipped.get(tin) || now.tins.get(tin).isEmpty()) return -5;
        now.shipped.set(tin, true);
        return now.tins.get(tin).size();
    }

    int apart(int flavour, int other) {
        return changed(now.copy(), doApart(flavour, other));
    }

    private int doApart(int flavour, int other) {
        if (!isFlavour(flavour) || !isFlavour(other)) return -1;
        if (flavour == other) return -2;
        boolean are = now.apart[flavour][other];
        for (int tin = 0; tin < now.tins.size() && !are; tin++) {
            List<Integer> sweets = now.tins.get(tin);
            if (!now.shipped.get(tin) && sweets.contains(flavour) && sweets.contains(other)) return -5;
        }
        now.apart[flavour][other] = now.apart[other][flavour] = !are;
        return are ? 0 : 1;
    }

    int run(int ticks) {
        return changed(now.copy(), doRun(ticks));
    }

    private int doRun(int ticks) {
        if (ticks < 1 || ticks > 99) return -2;
        if (now.ticks + ticks > 9999) return -5;
        return now.work(ticks);
    }

    int of(int lane, int what) {
        if (!lane(lane)) return -1;
        if (what < 0 || what > 7) return -2;
        List<Integer> hopper = now.hoppers.get(lane);
        int next = hopper.isEmpty() ? -6 : hopper.get(0);
        return new int[] {hopper.size(), now.heaps(lane).size(), next, now.foil[lane], now.pulls[lane],
                now.torn[lane], now.wrapped[lane], now.reason(lane)}[what];
    }

    int ofHeap(int lane, int heap, int what) {
        if (!lane(lane) || heap < 0 || heap >= now.heaps(lane).size()) return -1;
        return what < 0 || what > 1 ? -2 : now.heaps(lane).get(heap)[what];
    }

    int ofTin(int tin, int what) {
        if (!isTin(tin)) return -1;
        if (what < 0 || what > 3) return -2;
        int has = 0;
        int takes = 0;
        for (int flavour = 0; flavour < 6; flavour++) {
            if (now.tins.get(tin).contains(flavour)) has |= 1 << flavour;
            if (now.takes(tin, flavour)) takes |= 1 << flavour;
        }
        return new int[] {now.tins.get(tin).size(), now.shipped.get(tin) ? 1 : 0, has, takes}[what];
    }

    int inTin(int tin, int flavour) {
        if (!isTin(tin) || !isFlavour(flavour)) return -1;
        return State.amount(now.tins.get(tin), flavour);
    }

    int flavour(int flavour, int what) {
        if (!isFlavour(flavour)) return -1;
        if (what < 0 || what > 3) return -2;
        int[] facts = new int[4];
        for (List<Integer> hopper : now.hoppers) facts[0] += State.amount(hopper, flavour);
        for (int tin = 0; tin < now.tins.size(); tin++) {
            facts[now.shipped.get(tin) ? 2 : 1] += State.amount(now.tins.get(tin), flavour);
        }
        for (int other = 0; other < 6; other++) if (now.apart[flavour][other]) facts[3] |= 1 << other;
        return facts[what];
    }

    int byRoom(int rank) {
        List<Integer> open = new ArrayList<>();
        for (int tin = 0; tin < now.tins.size(); tin++) if (!now.shipped.get(tin)) open.add(tin);
        open.sort((a, b) -> now.tins.get(b).size() - now.tins.get(a).size());
        return rank >= 0 && rank < open.size() ? open.get(rank) : -1;
    }

    int byCount(int rank) {
        int[] sums = new int[6];
        for (List<Integer> tin : now.tins) for (int sweet : tin) sums[sweet]++;
        List<Integer> there = new ArrayList<>();
        for (int flavour = 0; flavour < 6; flavour++) if (sums[flavour] > 0) there.add(flavour);
        there.sort((a, b) -> sums[b] - sums[a]);
        return rank >= 0 && rank < there.size() ? there.get(rank) : -1;
    }

    int count(int what) {
        if (what < 0 || what > 16) return -2;
        int[] n = new int[17];
        n[0] = now.ticks;
        n[1] = now.tins.size();
        for (int tin = 0; tin < now.tins.size(); tin++) {
            n[now.shipped.get(tin) ? 3 : 2] |= 1 << tin;
            if (now.shipped.get(tin)) n[6] += now.tins.get(tin).size();
        }
        for (int lane = 0; lane < 4; lane++) {
            n[4] += now.hoppers.get(lane).size();
            n[7] += now.foil[lane];
            if (now.reason(lane) != 0) n[10] |= 1 << lane;
        }
        n[5] = now.allWrapped();
        n[8] = now.pulled;
        n[9] = now.wasted;
        System.arraycopy(now.settings, 0, n, 11, 4);
        n[15] = pad.length();
        n[16] = history.size();
        return n[what];
    }

    int stands(int lane, int what) {
        if (!lane(lane)) return -1;
        if (what != 0 && what != 1) return -2;
        State then = now.copy();
        for (int tick = 1; tick <= 200; tick++) {
            int reason = then.tick()[lane];
            if (reason != 0) return what == 0 ? tick : reason;
        }
        return -6;
    }

    int bestSpeed(int ticks, int what) {
        if (ticks < 1 || ticks > 50 || what < 0 || what > 1) return -2;
        int[] best = {0, -1};
        for (int speed = 9; speed >= 1; speed--) {
            State then = now.copy();
            then.settings[0] = speed;
            int wrapped = then.work(ticks);
            if (wrapped >= best[1]) best = new int[] {speed, wrapped};
        }
        return best[what];
    }

    int ifApart(int flavour, int other, int ticks) {
        if (!isFlavour(flavour) || !isFlavour(other)) return -1;
        if (flavour == other || ticks < 1 || ticks > 50) return -2;
        State then = now.copy();
        then.apart[flavour][other] = then.apart[other][flavour] = !now.apart[flavour][other];
        return then.work(ticks);
    }

    int tinsFor() {
        int tins = 0;
        for (int flavour = 0; flavour < 6; flavour++) {
            for (int sweets = flavour(flavour, 0); sweets > 0; sweets -= now.settings[2]) tins++;
        }
        return tins;
    }

    int put(long characters) {
        StringBuilder text = new StringBuilder();
        boolean ended = false;
        for (int shift = 0; shift < 64; shift += 8) {
            int code = (int) (characters >> shift & 255);
            if (code == 0) ended = true;
            else if (ended || code < 33 || code > 126) return -2;
            else text.insert(0, (char) code);
        }
        if (text.length() == 0) return -2;
        if (pad.length() + text.length() > 80) return -4;
        pad += text;
        return pad.length();
    }

    int wipe() {
        int had = pad.length();
        pad = "";
        return had;
    }

    /** A beginning stands if a text may begin so: if matching it asks for more, or is content. */
    int fault() {
        for (int end = 1; end <= pad.length(); end++) {
            Matcher matcher = TEXT.matcher(pad.substring(0, end));
            if (!matcher.matches() && !matcher.hitEnd()) return end - 1;
        }
        return TEXT.matcher(pad).matches() ? -6 : pad.length();
    }

    int carryOut() {
        if (fault() != -6) return -3;
        State before = now.copy();
        int carried = 0;
        for (String order : pad.split(";")) {
            if (carry(order) < 0) break;
            carried++;
        }
        pad = "";
        return changed(before, carried);
    }

    private int carry(String order) {
        String[] parts = order.substring(1).split("[.*+]");
        switch (order.charAt(0)) {
            case 'h': return doHeap(number(parts[0]), number(parts[1]), number(parts[2]));
            case 'f': return doFoil(number(parts[0]), number(parts[1]));
            case 't': return doTin();
            case 's': return doShip(number(parts[0]));
            case 'a': return doApart(order.charAt(1) - '0', order.charAt(2) - '0');
            default: return doRun(number(parts[0]));
        }
    }

    private static int number(String digits) {
        return Integer.parseInt(digits);
    }

    int undo() {
        if (history.isEmpty()) return -5;
        now = history.removeLast();
        return history.size();
    }

    int save(int slot) {
        if (slot < 0 || slot > 1) return -2;
        slots[slot] = now.copy();
        return now.tins.size();
    }

    int restore(int slot) {
        if (slot < 0 || slot > 1) return -2;
        if (slots[slot] == null) return -5;
        State before = now.copy();
        now = slots[slot].copy();
        return changed(before, now.tins.size());
    }
}
