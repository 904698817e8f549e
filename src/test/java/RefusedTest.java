import java.util.ArrayList;
import java.util.Arrays;
import java.util.List;

/** "Refused, and nothing changes, the first that fits: BAD, NOT, FULL": every refused call in each kind of state. */
public final class RefusedTest extends Checks {
    private static final String[] KINDS = {"new", "open end", "wrong step", "sound", "full and sound", "full and open"};
    private static final int PARTS = 6;

    public static void main(String[] args) {
        badAheadOfNot();
        badAheadOfFull();
        notNow();
        sentence("Refused, and nothing changes");
        for (int kind = 0; kind < KINDS.length; kind++) {
            for (Refused call : refusedCalls(kind)) checkNothingChanges(kind, call);
        }
        end("RefusedTest");
    }

    private record Refused(String name, int want, Call call) { }

    private static AirSteps made(int kind) {
        AirSteps x = new AirSteps();
        if (kind == 0) return x;
        if (kind == 1) add(x, "A+ B+C+ A-D+ C-");
        if (kind == 2) add(x, "A+ B+ A+ A-B-");
        if (kind == 3) add(x, "A+ B+ B-C+ A- C-D+ E+F+ D-E-F-");
        if (kind >= 4) add(x, "A+ B+ C+ D+ E+ F+ A- B- C- D- E- F- B+ B- A+");
        if (kind == 4) add(x, "A-");
        if (kind == 5) add(x, "E+");
        for (int c = 0; c < 6; c++) {
            x.pace(c, true, 2 + c, 20 + 3 * c);
            x.pace(c, false, 11 + c, 60 + c);
        }
        x.law(0, false, 1, true);
        x.law(2, false, 3, false);
        x.law(1, true, 5, true);
        // the laws that fill it up bar one by one the moves of all cylinders
        while (kind >= 4 && x.count(1) < 12) x.law(x.count(1) % 6, false, (x.count(1) + 1) % 6, x.count(1) < 8);
        return x;
    }

    /** All that the class can be asked, in parts short enough to be asked twice within 512 calls. */
    private static int[] asked(AirSteps x, int part) {
        return part == 0 ? askedOfText(x) : askedOfWays(x, 3 * (part - 1));
    }

    private static int[] askedOfText(AirSteps x) {
        List<Integer> answers = new ArrayList<>(List.of(x.sound(), x.groups(), x.memories(), x.breach()));
        for (int i = 0; i < 16; i++) answers.addAll(List.of(x.state(i), x.cut(i), x.explains(i)));
        for (int i = 0; i < 12; i++) answers.add(x.stops(i));
        for (int i = 0; i < 3; i++) answers.addAll(List.of(x.count(i), x.span(i), x.clash(i), x.clashOf(i)));
        for (int state = 0; state < 64; state++) answers.add(x.home(state));
        return answers.stream().mapToInt(Integer::intValue).toArray();
    }

    private static int[] askedOfWays(AirSteps x, int from) {
        int[] answers = new int[64 * 3];
        for (int i = 0; i < answers.length; i++) answers[i] = x.way(i / 3, from + i % 3);
        return answers;
    }

    /** What later changes answer: the numbers that a text that is not sound hides, and those of steps and laws to come. */
    private static int[] askedByChanges(AirSteps x) {
        List<Integer> answers = new ArrayList<>(List.of(x.step(1, 0), x.law(0, true, 1, true), x.repeal(0)));
        while (x.count(0) > 0) answers.add(x.drop());
        for (int c = 0; c < 6; c++) {
            answers.addAll(List.of(x.step(1 << c, 0), x.step(0, 1 << c), x.span(0), x.span(1), x.span(2)));
            answers.addAll(List.of(x.drop(), x.drop()));
        }
        while (x.count(1) > 0) answers.addAll(List.of(x.repeal(0), x.home(63), x.home(37), x.way(63, 0)));
        return answers.stream().mapToInt(Integer::intValue).toArray();
    }

    private static void checkNothingChanges(int kind, Refused refused) {
        String name = KINDS[kind] + ": " + refused.name;
        for (int part = 0; part < PARTS; part++) {
            AirSteps x = made(kind);
            int[] ahead = asked(x, part);
            due(name, refused.call.on(x), refused.want);
            due("what is asked behind " + name, Arrays.toString(asked(x, part)), Arrays.toString(ahead));
        }
        AirSteps x = made(kind);
        refused.call.on(x);
        due("what changes answer behind " + name, Arrays.toString(askedByChanges(x)),
            Arrays.toString(askedByChanges(made(kind))));
    }

    private static List<Refused> refusedCalls(int kind) {
        List<Refused> calls = new ArrayList<>();
        addBadSteps(calls);
        addBadPaces(calls);
        addBadLaws(calls);
        AirSteps x = made(kind);
        addBadQuestions(calls, x.count(0), x.count(1));
        if (x.sound() != NONE) addNots(calls, x.count(0));
        else addBadCuts(calls, x.groups());
        if (x.count(0) == 0) calls.add(new Refused("drop()", NOT, y -> y.drop()));
        if (x.count(0) == 16) addFullSteps(calls);
        if (x.count(1) == 12) addFullLaws(calls);
        return calls;
    }

    private static void addBadSteps(List<Refused> calls) {
        int[][] bad = {{0, 0}, {1, 1}, {32, 32}, {63, 63}, {63, 1}, {32, 63}, {64, 0}, {0, 64}, {65, 2}, {2, 65},
            {-1, 0}, {0, -1}, {-2, 1}, {MIN, 0}, {0, MIN}, {MAX, 0}, {0, MAX}, {MIN, MAX}};
        for (int[] b : bad) calls.add(new Refused("step(" + b[0] + ", " + b[1] + ")", BAD, x -> x.step(b[0], b[1])));
    }

    private static void addBadPaces(List<Refused> calls) {
        int[][] bad = {{-1, 5, 6}, {6, 5, 6}, {MIN, 5, 6}, {MAX, 5, 6}, {0, 0, 50}, {5, 0, 50}, {0, MIN, 50},
            {0, 50, 101}, {5, 50, 101}, {0, 50, MAX}, {0, 101, 101}, {0, 0, 0}, {0, 51, 50}, {5, 100, 99},
            {0, MAX, MIN}, {3, 1, 0}};
        for (int[] b : bad) {
            String rest = ", " + b[1] + ", " + b[2] + ")";
            calls.add(new Refused("pace(" + b[0] + ", true" + rest, BAD, x -> x.pace(b[0], true, b[1], b[2])));
            calls.add(new Refused("pace(" + b[0] + ", false" + rest, BAD, x -> x.pace(b[0], false, b[1], b[2])));
        }
    }

    private static void addBadLaws(List<Refused> calls) {
        int[][] bad = {{0, 0}, {5, 5}, {-1, 0}, {6, 0}, {MIN, 0}, {MAX, 0}, {0, -1}, {0, 6}, {0, MIN}, {0, MAX}, {6, 6}};
        for (int[] b : bad) {
            calls.add(new Refused("law(" + b[0] + ", false, " + b[1] + ", true)", BAD, x -> x.law(b[0], false, b[1], true)));
            calls.add(new Refused("law(" + b[0] + ", false, " + b[1] + ", false)", BAD, x -> x.law(b[0], false, b[1], false)));
        }
    }

    private static void addBadQuestions(List<Refused> calls, int steps, int laws) {
        for (int i : new int[] {-1, MIN, MAX}) {
            addBadQuestion(calls, i, i, i);
            calls.add(new Refused("stops(" + i + ")", BAD, x -> x.stops(i)));
            calls.add(new Refused("home(" + i + ")", BAD, x -> x.home(i)));
            calls.add(new Refused("way(" + i + ", 0)", BAD, x -> x.way(i, 0)));
        }
        for (int i : new int[] {-1, MIN}) {
            calls.add(new Refused("way(63, " + i + ")", BAD, x -> x.way(63, i)));
            calls.add(new Refused("cut(" + i + ")", BAD, x -> x.cut(i)));
        }
        addBadQuestion(calls, steps, laws, 3);
        addBadQuestion(calls, 16, 12, 4);
        calls.add(new Refused("clash(2)", BAD, x -> x.clash(2)));
        calls.add(new Refused("clashOf(2)", BAD, x -> x.clashOf(2)));
        calls.add(new Refused("stops(12)", BAD, x -> x.stops(12)));
        calls.add(new Refused("home(64)", BAD, x -> x.home(64)));
        calls.add(new Refused("way(64, 0)", BAD, x -> x.way(64, 0)));
    }

    private static void addBadQuestion(List<Refused> calls, int step, int law, int way) {
        calls.add(new Refused("state(" + step + ")", BAD, x -> x.state(step)));
        calls.add(new Refused("explains(" + step + ")", BAD, x -> x.explains(step)));
        calls.add(new Refused("repeal(" + law + ")", BAD, x -> x.repeal(law)));
        calls.add(new Refused("clash(" + way + ")", BAD, x -> x.clash(way)));
        calls.add(new Refused("clashOf(" + way + ")", BAD, x -> x.clashOf(way)));
        calls.add(new Refused("span(" + way + ")", BAD, x -> x.span(way)));
        calls.add(new Refused("count(" + way + ")", BAD, x -> x.count(way)));
    }

    private static void addBadCuts(List<Refused> calls, int groups) {
        for (int i : new int[] {groups, 16, MAX}) calls.add(new Refused("cut(" + i + ")", BAD, x -> x.cut(i)));
    }

    private static void addNots(List<Refused> calls, int steps) {
        calls.add(new Refused("groups()", NOT, x -> x.groups()));
        calls.add(new Refused("memories()", NOT, x -> x.memories()));
        calls.add(new Refused("breach()", NOT, x -> x.breach()));
        for (int i : new int[] {0, 1}) {
            calls.add(new Refused("clash(" + i + ")", NOT, x -> x.clash(i)));
            calls.add(new Refused("clashOf(" + i + ")", NOT, x -> x.clashOf(i)));
            calls.add(new Refused("cut(" + i + ")", NOT, x -> x.cut(i)));
        }
        for (int i : new int[] {0, 1, 2}) calls.add(new Refused("span(" + i + ")", NOT, x -> x.span(i)));
        for (int i : new int[] {0, 5, 6, 11}) calls.add(new Refused("stops(" + i + ")", NOT, x -> x.stops(i)));
        for (int k = 0; k < steps; k++) {
            int step = k;
            calls.add(new Refused("state(" + step + ")", NOT, x -> x.state(step)));
            calls.add(new Refused("explains(" + step + ")", NOT, x -> x.explains(step)));
        }
    }

    private static void addFullSteps(List<Refused> calls) {
        int[][] full = {{1, 0}, {0, 1}, {32, 0}, {0, 32}, {63, 0}, {0, 63}, {32, 1}};
        for (int[] f : full) calls.add(new Refused("step(" + f[0] + ", " + f[1] + ")", FULL, x -> x.step(f[0], f[1])));
    }

    private static void addFullLaws(List<Refused> calls) {
        for (int a = 0; a < 6; a++) {
            int one = a;
            int other = (a + 1) % 6;
            calls.add(new Refused("law(" + one + ", true, ..)", FULL, x -> x.law(one, true, other, true)));
            calls.add(new Refused("law(" + one + ", false, ..)", FULL, x -> x.law(one, false, other, false)));
        }
    }

    private static void badAheadOfNot() {
        sentence("the first that fits: BAD (..), NOT (THE TEXT is not SOUND; not now)");
        for (AirSteps x : new AirSteps[] {new AirSteps(), text("A+ B+"), text("A- A+")}) {
            int n = x.count(0);
            dueOfEach("both fit: state", BAD, x::state, -1, n);
            dueOfEach("both fit: explains", BAD, x::explains, -1, n);
            dueOfEach("both fit: clash", BAD, x::clash, -1, 2);
            dueOfEach("both fit: clashOf", BAD, x::clashOf, -1, 2);
            dueOfEach("both fit: span", BAD, x::span, -1, 3);
            dueOfEach("both fit: stops", BAD, x::stops, -1, 12);
            due("both fit: cut(-1)", x.cut(-1), BAD);
        }
    }

    private static void badAheadOfFull() {
        sentence("the first that fits: BAD (..), .., FULL");
        AirSteps x = made(4);
        due("both fit: step(0, 0)", x.step(0, 0), BAD);
        due("both fit: step(1, 1)", x.step(1, 1), BAD);
        due("both fit: step(64, 0)", x.step(64, 0), BAD);
        due("FULL alone fits: step(1, 0)", x.step(1, 0), FULL);
        due("both fit: law(1, .., 1, ..)", x.law(1, true, 1, false), BAD);
        due("both fit: law(0, .., 6, ..)", x.law(0, true, 6, false), BAD);
        due("both fit: law(-1, .., 0, ..)", x.law(-1, true, 0, false), BAD);
        due("FULL alone fits: law(0, .., 1, ..)", x.law(0, true, 1, false), FULL);
    }

    private static void notNow() {
        sentence("NOT (..; not now)");
        AirSteps x = new AirSteps();
        due("drop() of none", x.drop(), NOT);
        x.step(1, 0);
        due("drop() of a text that is not sound", x.drop(), 0);
        // what does not ask for a sound text is not refused without one
        due("pace without a sound text", x.pace(0, true, 1, 100), 1);
        due("law without a sound text", x.law(0, true, 1, true), 0);
        due("repeal without a sound text", x.repeal(0), 1);
        due("home without a sound text", x.home(63), 6);
        due("way without a sound text", x.way(63, 5), 5);
        due("count without a sound text", x.count(0), 0);
        due("sound() without a sound text", x.sound(), 0);
    }
}
