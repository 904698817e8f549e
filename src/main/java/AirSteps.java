/**
 * Cylinders that air moves out and in, by steps in a loop.
 *
 * An END is told as the document tells a SENSOR: the cylinder, and 6 more for
 * its OUT end. A move is told by the end to which it goes, so that moves,
 * triggers and laws are all compared as bits of ends.
 */
public final class AirSteps {
    public static final int NONE = -1, BAD = -2, NOT = -3, FULL = -4;

    private static final int CYLINDERS = 6;
    private static final int ENDS = 12;
    private static final int STATES = 64;
    private static final int MOST_STEPS = 16;
    private static final int MOST_LAWS = 12;
    private static final int MOST_TICKS = 100;
    private static final int GOES_OUT = 10;

    private final Text text;
    private final Groups rows;
    private final Laws laws;
    private final Ways ways;
    private final Paces paces;

    public AirSteps() {
        text = new Text();
        rows = new Groups();
        laws = new Laws();
        ways = new Ways();
        paces = new Paces();
    }

    // ---- the text

    public int step(int outs, int ins) {
        if (!isState(outs) || !isState(ins)) return BAD;
        if ((outs | ins) == 0 || (outs & ins) != 0) return BAD;
        if (text.size() >= MOST_STEPS) return FULL;
        text.add(outs, ins);
        return text.size();
    }

    public int drop() {
        if (text.size() == 0) return NOT;
        text.removeLast();
        return text.size();
    }

    public int sound() {
        return text.firstWrong();
    }

    public int state(int k) {
        if (!isBelow(k, text.size())) return BAD;
        if (!text.isSound()) return NOT;
        return text.stateAt(k);
    }

    public int clash(int way) {
        if (!isBelow(way, 2)) return BAD;
        if (!text.isSound()) return NOT;
        return firstClash(way);
    }

    public int clashOf(int way) {
        if (!isBelow(way, 2)) return BAD;
        if (!text.isSound()) return NOT;
        int k = firstClash(way);
        return k == NONE ? NONE : leastOf(clashing(way, k));
    }

    public int groups() {
        if (!text.isSound()) return NOT;
        rows.find(text);
        return rows.size();
    }

    public int cut(int i) {
        if (i < 0) return BAD;
        // how many cuts there are is known of a sound text alone
        if (!text.isSound()) return NOT;
        rows.find(text);
        return i < rows.size() ? rows.cutAt(i) : BAD;
    }

    public int memories() {
        if (!text.isSound()) return NOT;
        int alike = text.mostAlike();
        int bits = 0;
        while (bits < MOST_STEPS && (1 << bits) < alike) bits++;
        return bits;
    }

    // ---- ticks, laws

    public int pace(int cylinder, boolean out, int least, int most) {
        if (!isBelow(cylinder, CYLINDERS)) return BAD;
        if (least < 1 || most > MOST_TICKS || least > most) return BAD;
        paces.put(endOf(cylinder, out), least, most);
        return 1;
    }

    public int span(int way) {
        if (!isBelow(way, 3)) return BAD;
        if (!text.isSound()) return NOT;
        if (way == 0) return paces.leastOfLoop(text);
        if (way == 1) return paces.mostOfLoop(text);
        return paces.slowest(text);
    }

    public int law(int a, boolean out, int b, boolean isOut) {
        if (!isBelow(a, CYLINDERS) || !isBelow(b, CYLINDERS) || a == b) return BAD;
        if (laws.size() >= MOST_LAWS) return FULL;
        laws.add(endOf(a, out), endOf(b, isOut));
        ways.measure(laws);
        return laws.size() - 1;
    }

    public int repeal(int law) {
        if (!isBelow(law, laws.size())) return BAD;
        laws.remove(law);
        ways.measure(laws);
        return 1;
    }

    public int breach() {
        if (!text.isSound()) return NOT;
        for (int k = 0; k < text.size(); k++) {
            if (!laws.allow(text.endsOf(k), text.stateAt(k))) return k;
        }
        return NONE;
    }

    public int home(int state) {
        if (!isState(state)) return BAD;
        return ways.length(state);
    }

    public int way(int state, int i) {
        if (!isState(state) || i < 0) return BAD;
        return ways.move(laws, state, i);
    }

    // ---- sensors

    public int stops(int sensor) {
        if (!isBelow(sensor, ENDS)) return BAD;
        if (!text.isSound()) return NOT;
        for (int k = 0; k < text.size(); k++) {
            if (has(text.trigger(k), sensor)) return k;
        }
        return NONE;
    }

    public int explains(int step) {
        if (!isBelow(step, text.size())) return BAD;
        if (!text.isSound()) return NOT;
        int stopEarlier = 0;
        for (int k = 0; k < step; k++) stopEarlier |= text.trigger(k);
        return text.trigger(step) & ~stopEarlier;
    }

    public int count(int what) {
        if (what == 0) return text.size();
        if (what == 1) return laws.size();
        if (what == 2) return text.moves();
        return BAD;
    }

    // ---- clashes

    private int firstClash(int way) {
        if (way == 1) rows.find(text);
        for (int k = 0; k < text.size(); k++) {
            if (clashing(way, k) != 0) return k;
        }
        return NONE;
    }

    /**
     * The cylinders of step k that are pushed the other way at state k.
     * Groups are found by firstClash, once for all states.
     */
    private int clashing(int way, int k) {
        int pushed = 0;
        for (int j = 0; j < text.size(); j++) {
            if (isPushed(way, j, k)) pushed |= text.endsOf(j);
        }
        int ends = text.endsOf(k);
        return (outsOf(ends) & insOf(pushed)) | (insOf(ends) & outsOf(pushed));
    }

    private boolean isPushed(int way, int j, int k) {
        boolean triggered = (text.trigger(j) & ~sensorsOn(text.stateAt(k))) == 0;
        if (way == 0) return triggered;
        return rows.groupOf(j) == rows.groupOf(k) && (rows.isFirst(j) || triggered);
    }

    // ---- bits and bounds

    private static boolean isBelow(int number, int bound) {
        return number >= 0 && number < bound;
    }

    private static boolean isState(int bits) {
        return isBelow(bits, STATES);
    }

    private static boolean has(int bits, int i) {
        return ((bits >> i) & 1) != 0;
    }

    private static int leastOf(int bits) {
        for (int c = 0; c < CYLINDERS; c++) {
            if (has(bits, c)) return c;
        }
        return NONE;
    }

    private static int endOf(int cylinder, boolean out) {
        return out ? cylinder + CYLINDERS : cylinder;
    }

    private static int cylinderOf(int end) {
        return end < CYLINDERS ? end : end - CYLINDERS;
    }

    private static int endsTo(int outs, int ins) {
        return (outs << CYLINDERS) | ins;
    }

    private static int outsOf(int ends) {
        return ends >> CYLINDERS;
    }

    private static int insOf(int ends) {
        return ends & (STATES - 1);
    }

    private static int cylindersOf(int ends) {
        return outsOf(ends) | insOf(ends);
    }

    private static int sensorsOn(int state) {
        return endsTo(state, ~state & (STATES - 1));
    }

    /** The row of steps, and the state ahead of each and behind the last. */
    private static final class Text {
        private final int[] ends = new int[MOST_STEPS];
        private final int[] states = new int[MOST_STEPS + 1];
        private int size = 0;

        int size() {
            return size;
        }

        void add(int outs, int ins) {
            if (size >= MOST_STEPS) return;
            ends[size] = endsTo(outs, ins);
            states[size + 1] = (states[size] | outs) & ~ins;
            size++;
        }

        void removeLast() {
            if (size > 0) size--;
        }

        int endsOf(int k) {
            return isBelow(k, size) ? ends[k] : 0;
        }

        int stateAt(int k) {
            return isBelow(k, size) ? states[k] : 0;
        }

        int trigger(int k) {
            return endsOf(k == 0 ? size - 1 : k - 1);
        }

        boolean isSound() {
            return firstWrong() == NONE;
        }

        int firstWrong() {
            for (int k = 0; k < size; k++) {
                // a cylinder is told wrongly to go where its sensor is on already
                if ((ends[k] & sensorsOn(states[k])) != 0) return k;
            }
            return size == 0 || states[size] != 0 ? size : NONE;
        }

        int mostAlike() {
            int most = 0;
            for (int k = 0; k < size; k++) most = Math.max(most, alike(states[k]));
            return most;
        }

        private int alike(int state) {
            int found = 0;
            for (int k = 0; k < size; k++) {
                if (states[k] == state) found++;
            }
            return found;
        }

        int moves() {
            int sum = 0;
            for (int k = 0; k < size; k++) sum += Integer.bitCount(ends[k]);
            return sum;
        }
    }

    /** The fewest cuts of a sound text, and of those the ones that come first. */
    private static final class Groups {
        /** More groups than any text can have. */
        private static final int FAR = 1000;

        private final int[] cuts = new int[MOST_STEPS];
        /** For one first cut: the fewest groups of the steps from p on, round to that cut. */
        private final int[] needs = new int[MOST_STEPS];
        private int size = 0;

        int size() {
            return size;
        }

        int cutAt(int i) {
            return isBelow(i, size) ? cuts[i] : NONE;
        }

        void find(Text text) {
            int best = 0;
            int fewest = FAR;
            for (int first = 0; first < text.size(); first++) {
                int need = needsFrom(text, first);
                if (need < fewest) {
                    fewest = need;
                    best = first;
                }
            }
            needsFrom(text, best);
            collect(text.size(), best);
        }

        private int needsFrom(Text text, int first) {
            for (int p = text.size() - 1; p >= first; p--) needs[p] = need(text, first, p);
            return text.size() == 0 ? FAR : needs[first];
        }

        /** What lies ahead of the first cut belongs to the last group: there are no cuts in it. */
        private int need(Text text, int first, int p) {
            int n = text.size();
            int fewest = FAR;
            int moved = 0;
            for (int q = p; q < n + first; q++) {
                int movers = cylindersOf(text.endsOf(q < n ? q : q - n));
                if ((moved & movers) != 0) return fewest;
                moved |= movers;
                if (q + 1 < n) fewest = Math.min(fewest, needs[q + 1] + 1);
            }
            return 1;
        }

        /**
         * Steps further on never need more groups, so the first one that needs one
         * group less can be reached from the cut ahead of it, as a later one can.
         */
        private void collect(int n, int first) {
            size = 0;
            int left = FAR;
            for (int q = first; q < n; q++) {
                if (q == first || needs[q] == left - 1) {
                    cuts[size] = q;
                    size++;
                    left = needs[q];
                }
            }
        }

        int groupOf(int k) {
            int behind = 0;
            for (int i = 0; i < size; i++) {
                if (cuts[i] <= k) behind++;
            }
            return behind == 0 ? size - 1 : behind - 1;
        }

        boolean isFirst(int k) {
            for (int i = 0; i < size; i++) {
                if (cuts[i] == k) return true;
            }
            return false;
        }
    }

    /** How long each move takes, by the end to which it goes. */
    private static final class Paces {
        private final int[] least = new int[ENDS];
        private final int[] most = new int[ENDS];

        Paces() {
            for (int end = 0; end < ENDS; end++) {
                least[end] = 1;
                most[end] = 1;
            }
        }

        void put(int end, int fewest, int greatest) {
            if (!isBelow(end, ENDS)) return;
            least[end] = fewest;
            most[end] = greatest;
        }

        int leastOfLoop(Text text) {
            return sum(least, text);
        }

        int mostOfLoop(Text text) {
            return sum(most, text);
        }

        private static int sum(int[] ticks, Text text) {
            int sum = 0;
            for (int k = 0; k < text.size(); k++) sum += longest(ticks, text.endsOf(k));
            return sum;
        }

        int slowest(Text text) {
            int found = NONE;
            int ticks = 0;
            for (int k = 0; k < text.size(); k++) {
                int own = longest(most, text.endsOf(k));
                if (own > ticks) {
                    ticks = own;
                    found = k;
                }
            }
            return found;
        }

        /** A step is done when all its moves are: the longest of them tells. */
        private static int longest(int[] ticks, int ends) {
            int most = 0;
            for (int end = 0; end < ticks.length; end++) {
                if (has(ends, end)) most = Math.max(most, ticks[end]);
            }
            return most;
        }
    }

    /** Moves to one end that are barred while another cylinder is at an end. */
    private static final class Laws {
        private final int[] barred = new int[MOST_LAWS];
        private final int[] whileAt = new int[MOST_LAWS];
        private int size = 0;

        int size() {
            return size;
        }

        void add(int barredEnd, int whileEnd) {
            if (size >= MOST_LAWS) return;
            barred[size] = barredEnd;
            whileAt[size] = whileEnd;
            size++;
        }

        void remove(int law) {
            if (!isBelow(law, size)) return;
            for (int i = law; i < size - 1; i++) {
                barred[i] = barred[i + 1];
                whileAt[i] = whileAt[i + 1];
            }
            size--;
        }

        /** Whether moves to these ends, all at once, keep every law at the state. */
        boolean allow(int ends, int state) {
            int on = sensorsOn(state);
            int movers = cylindersOf(ends);
            for (int i = 0; i < size; i++) {
                boolean held = has(on, whileAt[i]) || has(movers, cylinderOf(whileAt[i]));
                if (has(ends, barred[i]) && held) return false;
            }
            return true;
        }

        boolean allowMove(int state, int cylinder) {
            int bit = 1 << cylinder;
            return allow(endsTo(bit & ~state, bit & state), state);
        }
    }

    /** How far each state is from home under the laws for which it was measured. */
    private static final class Ways {
        private final int[] lengths = new int[STATES];
        private final int[] queue = new int[STATES];

        Ways() {
            // without laws each cylinder that is out goes in, and no other moves
            for (int state = 0; state < STATES; state++) lengths[state] = Integer.bitCount(state);
        }

        void measure(Laws laws) {
            for (int state = 0; state < STATES; state++) lengths[state] = NONE;
            lengths[0] = 0;
            queue[0] = 0;
            int known = 1;
            for (int i = 0; i < known && i < STATES; i++) known = reachBack(laws, queue[i], known);
        }

        /** Queues the states from which one move leads to this one; how many are queued then. */
        private int reachBack(Laws laws, int state, int known) {
            int queued = known;
            for (int c = 0; c < CYLINDERS; c++) {
                int from = state ^ (1 << c);
                if (lengths[from] == NONE && laws.allowMove(from, c) && queued < STATES) {
                    lengths[from] = lengths[state] + 1;
                    queue[queued] = from;
                    queued++;
                }
            }
            return queued;
        }

        int length(int state) {
            return isState(state) ? lengths[state] : NONE;
        }

        int move(Laws laws, int state, int i) {
            if (i >= length(state)) return NONE;
            int at = state;
            for (int done = 0; done < i; done++) at ^= 1 << nextCylinder(laws, at);
            int cylinder = nextCylinder(laws, at);
            return has(at, cylinder) ? cylinder : cylinder + GOES_OUT;
        }

        /** The least cylinder whose move brings the state one move nearer home. */
        private int nextCylinder(Laws laws, int state) {
            int left = length(state);
            for (int c = 0; c < CYLINDERS; c++) {
                if (length(state ^ (1 << c)) == left - 1 && laws.allowMove(state, c)) return c;
            }
            return 0;
        }
    }
}
