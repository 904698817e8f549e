import java.util.ArrayList;
import java.util.List;
import java.util.Random;

/**
 * Promises 1 to 20 by many runs of calls, compared with a plain model that
 * follows the document's words: it tries all ways to cut, and all rows of moves.
 */
public final class ModelTest {
    private static final int RUNS = 500;
    /** Of the 512 calls of an object: those by chance, and where ways home are asked no more. */
    private static final int CHANCE = 200;
    private static final int LAST_WAY = 470;
    private static int wrong = 0;
    private static List<String> calls = new ArrayList<>();

    public static void main(String[] args) {
        // the seed is told, so that each run of the test makes the same calls
        Random random = new Random(20261116);
        for (int run = 0; run < RUNS && wrong == 0; run++) {
            calls = new ArrayList<>();
            oneRun(random, run);
        }
        System.out.println(wrong == 0 ? "ModelTest: all as due" : "ModelTest: wrong");
        if (wrong != 0) System.exit(1);
    }

    private static void due(String call, int got, int want) {
        calls.add(call + " = " + got);
        if (got == want || wrong > 0) return;
        wrong++;
        for (String row : calls) System.out.println(row);
        System.out.println(call + " answered " + got + ", due is " + want);
    }

    private static void oneRun(Random random, int run) {
        AirSteps x = new AirSteps();
        Model m = new Model();
        int cylinders = 1 + random.nextInt(6);
        while (calls.size() < CHANCE && wrong == 0) {
            int kind = random.nextInt(24);
            if (calls.isEmpty() || kind == 0) loop(random, x, m, cylinders);
            else if (kind < 10) change(random, x, m, kind);
            else ask(random, x, m, kind);
        }
        if (run % 3 == 0) loop(random, x, m, cylinders);
        askAll(x, m, run % 3);
        if (calls.size() > 512) due("the calls of one object, 512 at most", calls.size(), 512);
    }

    private static void step(AirSteps x, Model m, int outs, int ins) {
        due("step(" + outs + ", " + ins + ")", x.step(outs, ins), m.step(outs, ins));
    }

    private static void drop(AirSteps x, Model m) {
        due("drop()", x.drop(), m.drop());
    }

    /** A sound text of up to 16 steps instead of the one that is there. */
    private static void loop(Random random, AirSteps x, Model m, int cylinders) {
        while (!m.outs.isEmpty()) drop(x, m);
        int steps = 1 + random.nextInt(15);
        boolean single = random.nextInt(3) == 0;
        int state = 0;
        for (int k = 0; k < steps; k++) {
            int moved = 1 << random.nextInt(cylinders);
            if (!single) moved |= random.nextInt(1 << cylinders) & random.nextInt(1 << cylinders);
            step(x, m, moved & ~state, moved & state);
            state ^= moved;
        }
        if (state != 0) step(x, m, 0, state);
    }

    private static void change(Random random, AirSteps x, Model m, int kind) {
        int a = random.nextInt(8) - 1;
        int b = random.nextInt(8) - 1;
        boolean p = random.nextBoolean();
        boolean q = random.nextBoolean();
        if (kind == 1) {
            step(x, m, random.nextInt(70) - 3, random.nextInt(70) - 3);
        } else if (kind == 2) {
            int moved = 1 + random.nextInt(63);
            int state = m.stateBehind();
            step(x, m, moved & ~state, moved & state);
        } else if (kind == 3) {
            drop(x, m);
        } else if (kind < 6) {
            int least = random.nextInt(103) - 1;
            int most = random.nextInt(4) == 0 ? random.nextInt(103) - 1 : least + random.nextInt(20);
            due("pace(" + a + ", " + p + ", " + least + ", " + most + ")", x.pace(a, p, least, most),
                m.pace(a, p, least, most));
        } else if (kind < 9) {
            due("law(" + a + ", " + p + ", " + b + ", " + q + ")", x.law(a, p, b, q), m.law(a, p, b, q));
        } else {
            int law = random.nextInt(6) - 1;
            due("repeal(" + law + ")", x.repeal(law), m.repeal(law));
        }
    }

    private static void ask(Random random, AirSteps x, Model m, int kind) {
        int way = random.nextInt(5) - 1;
        int k = random.nextInt(18) - 1;
        int state = random.nextInt(66) - 1;
        switch (kind) {
            case 10: due("sound()", x.sound(), m.sound()); break;
            case 11: due("state(" + k + ")", x.state(k), m.state(k)); break;
            case 12: due("clash(" + way + ")", x.clash(way), m.clash(way)); break;
            case 13: due("clashOf(" + way + ")", x.clashOf(way), m.clashOf(way)); break;
            case 14: due("memories()", x.memories(), m.memories()); break;
            case 15: due("span(" + way + ")", x.span(way), m.span(way)); break;
            case 16: due("breach()", x.breach(), m.breach()); break;
            case 17: due("home(" + state + ")", x.home(state), m.home(state)); break;
            case 18: due("way(" + state + ", " + way + ")", x.way(state, way), m.way(state, way)); break;
            case 19: due("stops(" + k + ")", x.stops(k), m.stops(k)); break;
            case 20: due("explains(" + k + ")", x.explains(k), m.explains(k)); break;
            case 21: due("count(" + way + ")", x.count(way), m.count(way)); break;
            case 22: if (m.outs.size() < 9) due("groups()", x.groups(), m.groups()); break;
            default: if (m.outs.size() < 9 && k < 9) due("cut(" + k + ")", x.cut(k), m.cut(k)); break;
        }
    }

    private static void askAll(AirSteps x, Model m, int firstState) {
        due("sound()", x.sound(), m.sound());
        due("memories()", x.memories(), m.memories());
        due("breach()", x.breach(), m.breach());
        for (int way = -1; way < 4; way++) {
            due("clash(" + way + ")", x.clash(way), m.clash(way));
            due("clashOf(" + way + ")", x.clashOf(way), m.clashOf(way));
            due("span(" + way + ")", x.span(way), m.span(way));
            due("count(" + way + ")", x.count(way), m.count(way));
        }
        for (int k = -1; k <= 16; k++) {
            due("state(" + k + ")", x.state(k), m.state(k));
            due("stops(" + k + ")", x.stops(k), m.stops(k));
            due("explains(" + k + ")", x.explains(k), m.explains(k));
        }
        List<Integer> cuts = m.isSound() ? m.cuts() : new ArrayList<>();
        due("groups()", x.groups(), m.isSound() ? cuts.size() : Model.NOT);
        for (int i = 0; i < cuts.size(); i++) due("cut(" + i + ")", x.cut(i), cuts.get(i));
        if (m.isSound()) due("cut(" + cuts.size() + ")", x.cut(cuts.size()), Model.BAD);
        for (int state = firstState - 1; state <= 64 && calls.size() < LAST_WAY; state += 3) {
            due("home(" + state + ")", x.home(state), m.home(state));
            for (int i = 0; i <= Math.max(0, m.home(state)); i++) {
                due("way(" + state + ", " + i + ")", x.way(state, i), m.way(state, i));
            }
        }
    }

    private static final class Model {
        static final int NONE = -1, BAD = -2, NOT = -3, FULL = -4;

        final List<boolean[]> outs = new ArrayList<>();
        final List<boolean[]> ins = new ArrayList<>();
        final List<int[]> laws = new ArrayList<>();
        final int[][] least = {{1, 1}, {1, 1}, {1, 1}, {1, 1}, {1, 1}, {1, 1}};
        final int[][] most = {{1, 1}, {1, 1}, {1, 1}, {1, 1}, {1, 1}, {1, 1}};

        static boolean[] row(int bits) {
            boolean[] row = new boolean[6];
            for (int c = 0; c < 6; c++) row[c] = bits / (1 << c) % 2 == 1;
            return row;
        }

        static int bits(boolean[] row) {
            int sum = 0;
            for (int c = 0; c < 6; c++) sum += row[c] ? 1 << c : 0;
            return sum;
        }

        int step(int out, int in) {
            if (out < 0 || out > 63 || in < 0 || in > 63 || out + in == 0) return BAD;
            for (int c = 0; c < 6; c++) {
                if (row(out)[c] && row(in)[c]) return BAD;
            }
            if (outs.size() == 16) return FULL;
            outs.add(row(out));
            ins.add(row(in));
            return outs.size();
        }

        int drop() {
            if (outs.isEmpty()) return NOT;
            outs.remove(outs.size() - 1);
            ins.remove(ins.size() - 1);
            return outs.size();
        }

        boolean[] rowAt(int k) {
            boolean[] row = new boolean[6];
            for (int j = 0; j < k; j++) {
                for (int c = 0; c < 6; c++) {
                    if (outs.get(j)[c]) row[c] = true;
                    if (ins.get(j)[c]) row[c] = false;
                }
            }
            return row;
        }

        int stateBehind() {
            return bits(rowAt(outs.size()));
        }

        int sound() {
            for (int k = 0; k < outs.size(); k++) {
                boolean[] row = rowAt(k);
                for (int c = 0; c < 6; c++) {
                    if (outs.get(k)[c] && row[c] || ins.get(k)[c] && !row[c]) return k;
                }
            }
            return !outs.isEmpty() && stateBehind() == 0 ? NONE : outs.size();
        }

        boolean isSound() {
            return sound() == NONE;
        }

        int state(int k) {
            if (k < 0 || k >= outs.size()) return BAD;
            return isSound() ? bits(rowAt(k)) : NOT;
        }

        boolean inTrigger(int k, int sensor) {
            int before = (k + outs.size() - 1) % outs.size();
            return sensor < 6 ? ins.get(before)[sensor] : outs.get(before)[sensor - 6];
        }

        boolean triggered(int k, boolean[] row) {
            for (int s = 0; s < 12; s++) {
                boolean on = s < 6 ? !row[s] : row[s - 6];
                if (inTrigger(k, s) && !on) return false;
            }
            return true;
        }

        /** The group of each step, by walking round from the first cut. */
        int[] groupOf(List<Integer> cuts) {
            int n = outs.size();
            int[] group = new int[n];
            int g = -1;
            for (int i = 0; i < n; i++) {
                int k = (cuts.get(0) + i) % n;
                if (cuts.contains(k)) g++;
                group[k] = g;
            }
            return group;
        }

        /** The state times 6 and the cylinder; or NONE. */
        int firstClash(int way) {
            int n = outs.size();
            // groups of which none has a cylinder twice can't clash: cuts are tried for short texts alone
            if (way == 1 && n > 8) return NONE;
            List<Integer> cuts = way == 1 ? cuts() : null;
            int[] group = way == 1 ? groupOf(cuts) : new int[n];
            for (int k = 0; k < n; k++) {
                for (int c = 0; c < 6; c++) {
                    for (int j = 0; j < n; j++) {
                        boolean against = outs.get(k)[c] && ins.get(j)[c] || ins.get(k)[c] && outs.get(j)[c];
                        boolean pushed = triggered(j, rowAt(k)) || way == 1 && cuts.contains(j);
                        if (against && pushed && group[j] == group[k]) return k * 6 + c;
                    }
                }
            }
            return NONE;
        }

        int clash(int way) {
            if (way != 0 && way != 1) return BAD;
            if (!isSound()) return NOT;
            int found = firstClash(way);
            return found == NONE ? NONE : found / 6;
        }

        int clashOf(int way) {
            if (way != 0 && way != 1) return BAD;
            if (!isSound()) return NOT;
            int found = firstClash(way);
            return found == NONE ? NONE : found % 6;
        }

        boolean canCut(List<Integer> cuts) {
            if (cuts.isEmpty()) return false;
            int[] group = groupOf(cuts);
            boolean[][] seen = new boolean[17][6];
            for (int k = 0; k < group.length; k++) {
                for (int c = 0; c < 6; c++) {
                    if (!outs.get(k)[c] && !ins.get(k)[c]) continue;
                    if (seen[group[k]][c]) return false;
                    seen[group[k]][c] = true;
                }
            }
            return true;
        }

        static boolean comesFirst(List<Integer> a, List<Integer> b) {
            if (a.size() != b.size()) return a.size() < b.size();
            for (int i = 0; i < a.size(); i++) {
                if (!a.get(i).equals(b.get(i))) return a.get(i) < b.get(i);
            }
            return false;
        }

        List<Integer> cuts() {
            List<Integer> best = null;
            for (int mask = 1; mask < 1 << outs.size(); mask++) {
                if (best != null && Integer.bitCount(mask) > best.size()) continue;
                List<Integer> cuts = new ArrayList<>();
                for (int k = 0; k < outs.size(); k++) {
                    if ((mask >> k & 1) == 1) cuts.add(k);
                }
                if ((best == null || comesFirst(cuts, best)) && canCut(cuts)) best = cuts;
            }
            return best;
        }

        int groups() {
            return isSound() ? cuts().size() : NOT;
        }

        int cut(int i) {
            if (i < 0) return BAD;
            if (!isSound()) return NOT;
            List<Integer> cuts = cuts();
            return i < cuts.size() ? cuts.get(i) : BAD;
        }

        int memories() {
            if (!isSound()) return NOT;
            int[] times = new int[64];
            int greatest = 0;
            for (int k = 0; k < outs.size(); k++) greatest = Math.max(greatest, ++times[bits(rowAt(k))]);
            int m = 0;
            for (int power = 1; power < greatest; power *= 2) m++;
            return m;
        }

        int pace(int c, boolean out, int from, int to) {
            if (c < 0 || c > 5 || from < 1 || from > 100 || to < 1 || to > 100 || from > to) return BAD;
            least[c][out ? 1 : 0] = from;
            most[c][out ? 1 : 0] = to;
            return 1;
        }

        int longest(int k, int[][] ticks) {
            int longest = 0;
            for (int c = 0; c < 6; c++) {
                if (outs.get(k)[c]) longest = Math.max(longest, ticks[c][1]);
                if (ins.get(k)[c]) longest = Math.max(longest, ticks[c][0]);
            }
            return longest;
        }

        int span(int way) {
            if (way < 0 || way > 2) return BAD;
            if (!isSound()) return NOT;
            int sum = 0;
            int slowest = 0;
            for (int k = 0; k < outs.size(); k++) {
                sum += longest(k, way == 0 ? least : most);
                if (longest(k, most) > longest(slowest, most)) slowest = k;
            }
            return way == 2 ? slowest : sum;
        }

        int law(int a, boolean out, int b, boolean isOut) {
            if (a < 0 || a > 5 || b < 0 || b > 5 || a == b) return BAD;
            if (laws.size() == 12) return FULL;
            laws.add(new int[] {a, out ? 1 : 0, b, isOut ? 1 : 0});
            return laws.size() - 1;
        }

        int repeal(int law) {
            if (law < 0 || law >= laws.size()) return BAD;
            laws.remove(law);
            return 1;
        }

        int breach() {
            if (!isSound()) return NOT;
            for (int k = 0; k < outs.size(); k++) {
                boolean[] row = rowAt(k);
                for (int[] law : laws) {
                    boolean moves = law[1] == 1 ? outs.get(k)[law[0]] : ins.get(k)[law[0]];
                    boolean other = outs.get(k)[law[2]] || ins.get(k)[law[2]];
                    if (moves && (other || row[law[2]] == (law[3] == 1))) return k;
                }
            }
            return NONE;
        }

        boolean mayMove(int state, int c) {
            boolean[] row = row(state);
            for (int[] law : laws) {
                if (law[0] == c && (law[1] == 1) == !row[c] && row[law[2]] == (law[3] == 1)) return false;
            }
            return true;
        }

        /**
         * From the state on, all rows of moves of one length in their order, then
         * those that are one longer: the first that comes to a state is the first of its length.
         */
        List<Integer> rowHome(int state) {
            List<List<Integer>> paths = new ArrayList<>();
            List<Integer> places = new ArrayList<>();
            paths.add(new ArrayList<>());
            places.add(state);
            for (int i = 0; i < places.size(); i++) {
                int at = places.get(i);
                if (at == 0) return paths.get(i);
                for (int c = 0; c < 6; c++) {
                    int next = row(at)[c] ? at - (1 << c) : at + (1 << c);
                    if (!mayMove(at, c) || places.contains(next)) continue;
                    List<Integer> path = new ArrayList<>(paths.get(i));
                    path.add(next > at ? c + 10 : c);
                    paths.add(path);
                    places.add(next);
                }
            }
            return null;
        }

        int home(int state) {
            if (state < 0 || state > 63) return BAD;
            List<Integer> row = rowHome(state);
            return row == null ? NONE : row.size();
        }

        int way(int state, int i) {
            if (state < 0 || state > 63 || i < 0) return BAD;
            List<Integer> row = rowHome(state);
            return row == null || i >= row.size() ? NONE : row.get(i);
        }

        int stops(int sensor) {
            if (sensor < 0 || sensor > 11) return BAD;
            if (!isSound()) return NOT;
            for (int k = 0; k < outs.size(); k++) {
                if (inTrigger(k, sensor)) return k;
            }
            return NONE;
        }

        int explains(int step) {
            if (step < 0 || step >= outs.size()) return BAD;
            if (!isSound()) return NOT;
            int found = 0;
            for (int s = 0; s < 12; s++) {
                if (stops(s) == step) found += 1 << s;
            }
            return found;
        }

        int count(int what) {
            if (what == 0) return outs.size();
            if (what == 1) return laws.size();
            if (what != 2) return BAD;
            int moves = 0;
            for (int k = 0; k < outs.size(); k++) {
                for (int c = 0; c < 6; c++) moves += outs.get(k)[c] || ins.get(k)[c] ? 1 : 0;
            }
            return moves;
        }
    }
}
