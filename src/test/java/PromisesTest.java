/** Each row "BAD", "NOT", "FULL", "NONE" or "0" of the promises 1 to 20: the numbers at both sides of each bound. */
public final class PromisesTest extends Checks {
    private static final int[] STATES_BAD = {-1, 64, 65, 128, MIN, MAX};

    public static void main(String[] args) {
        newObject();
        step();
        drop();
        sound();
        state();
        clash();
        clashOf();
        groups();
        cut();
        memories();
        pace();
        span();
        law();
        repeal();
        breach();
        home();
        way();
        stops();
        explains();
        count();
        end("PromisesTest");
    }

    /** Texts that are not SOUND, each for another reason. */
    private static AirSteps[] notSound() {
        return new AirSteps[] {new AirSteps(), text("A+"), text("A-"), text("A+ B+ A-"), text("A+ A+ A-"),
            text("A+ A- A-"), text(SIXTEEN.substring(0, 45) + "B+")};
    }

    private static void newObject() {
        sentence("1: No STEPS, no LAWS.");
        AirSteps x = new AirSteps();
        dueOfEach("count", 0, x::count, 0, 1, 2);
        due("drop()", x.drop(), NOT);
        due("repeal(0)", x.repeal(0), BAD);
        due("state(0)", x.state(0), BAD);
        due("explains(0)", x.explains(0), BAD);
        due("home(63)", x.home(63), 6);
        due("the first step", x.step(1, 0), 1);
        due("the first law", x.law(0, true, 1, true), 0);
    }

    private static void step() {
        sentence("2: A STEP more: ..: how many STEPS. BAD: none, or one both ways; FULL.");
        AirSteps x = new AirSteps();
        checkStepsBad(x);
        int[][] fine = {{1, 0}, {0, 1}, {32, 0}, {0, 32}, {63, 0}, {0, 63}, {32, 31}, {31, 32}, {1, 62}};
        for (int i = 0; i < fine.length; i++) {
            due("step(" + fine[i][0] + ", " + fine[i][1] + ")", x.step(fine[i][0], fine[i][1]), i + 1);
        }
        checkStepsBad(x);
        while (x.count(0) < 15) x.step(1, 0);
        due("the sixteenth", x.step(1, 0), 16);
        for (int[] f : fine) due("16 steps: step(" + f[0] + ", " + f[1] + ")", x.step(f[0], f[1]), FULL);
        checkStepsBad(x);
        due("count(0)", x.count(0), 16);
    }

    private static void checkStepsBad(AirSteps x) {
        due("step(0, 0)", x.step(0, 0), BAD);
        for (int c = 0; c < 6; c++) {
            due("step, both ways: " + c, x.step(1 << c, 1 << c), BAD);
            due("step, all out, in: " + c, x.step(63, 1 << c), BAD);
            due("step, all in, out: " + c, x.step(1 << c, 63), BAD);
        }
        due("step(63, 63)", x.step(63, 63), BAD);
        dueOfEach("no such cylinder: step out", BAD, bits -> x.step(bits, 0), STATES_BAD);
        dueOfEach("no such cylinder: step in", BAD, bits -> x.step(0, bits), STATES_BAD);
        dueOfEach("no such cylinder: step out, 0 in", BAD, bits -> x.step(bits, 1), 64, -2, MIN);
        dueOfEach("no such cylinder: step in, 0 out", BAD, bits -> x.step(1, bits), 64, -2, MIN);
        due("step(MIN, MAX)", x.step(MIN, MAX), BAD);
    }

    private static void drop() {
        sentence("3: The last STEP goes: how many are left. NOT: there is none.");
        AirSteps x = new AirSteps();
        due("drop() of none", x.drop(), NOT);
        x.step(1, 0);
        due("drop() of one", x.drop(), 0);
        due("drop() of none again", x.drop(), NOT);
        due("step behind it", x.step(1, 0), 1);
        AirSteps full = text(SIXTEEN);
        due("step of 16", full.step(1, 0), FULL);
        for (int left = 15; left >= 0; left--) {
            due("drop()", full.drop(), left);
            due("sound(): the text ends there", full.sound(), left % 2 == 0 && left > 0 ? NONE : left);
        }
        due("drop() of all", full.drop(), NOT);
        due("count(2)", full.count(2), 0);
    }

    private static void sound() {
        sentence("4: NONE, or the first STEP that is wrong; how many STEPS there are, if all but the end are right (also without STEPS: 0).");
        due("without steps", new AirSteps().sound(), 0);
        due("the first of 16 is wrong", text("B- " + SIXTEEN.substring(3)).sound(), 0);
        due("the first and others are wrong", text("B- A- A- B-").sound(), 0);
        due("the last of 16 is wrong", text(SIXTEEN.substring(0, 45) + "A+").sound(), 15);
        due("the end of 16 is wrong", text(SIXTEEN.substring(0, 45) + "A-F+").sound(), 16);
        due("the end of one is wrong", text("F+").sound(), 1);
        due("the last step is wrong, and the end, too", text("A+ B-").sound(), 1);
        due("16 are right", text(SIXTEEN).sound(), NONE);
        due("two are right", text("A+ A-").sound(), NONE);
    }

    private static void state() {
        sentence("5: STATE k. BAD; NOT.");
        for (int n = 2; n <= 16; n++) {
            AirSteps x = loop(n);
            due("of " + n + ": state(0)", x.state(0), 0);
            due("of " + n + ": state(n - 1)", x.state(n - 1), 1);
            dueOfEach("of " + n + ": state", BAD, x::state, -1, n, MIN, MAX);
        }
        for (AirSteps x : notSound()) {
            int n = x.count(0);
            for (int k = 0; k < n; k++) due("not sound: state(" + k + ")", x.state(k), NOT);
            dueOfEach("not sound, of " + n + ": state", BAD, x::state, -1, n, 16, MIN, MAX);
        }
    }

    private static void clash() {
        sentence("6: The first STATE k with a CLASH, DIRECT (way 0), with GROUPS (1); NONE. BAD; NOT.");
        due("at the first state and at another", text("A+ B+ B- A- B+ B-").clash(0), 0);
        due("at the last state", text("A+ B+ A-B-").clash(0), 2);
        dueOfEach("none: clash", NONE, text("A+ A-")::clash, 0, 1);
        due("with groups", text("A+ B+ B- A-").clash(1), NONE);
        dueOfEach("sound: clash", BAD, text("A+ A-")::clash, -1, 2, MIN, MAX);
        for (AirSteps x : notSound()) {
            dueOfEach("not sound: clash", NOT, x::clash, 0, 1);
            dueOfEach("not sound: clash", BAD, x::clash, -1, 2, MIN, MAX);
        }
    }

    private static void clashOf() {
        sentence("7: The least CYLINDER that is in that CLASH; NONE. BAD; NOT.");
        due("A alone", text("A+ B+ B- A-").clashOf(0), 0);
        due("F alone", text("F+ B+ B- F-").clashOf(0), 5);
        due("all but F", text("A+B+C+D+E+ F+ F- A-B-C-D-E-").clashOf(0), 0);
        due("all but A", text("B+C+D+E+F+ A+ A- B-C-D-E-F-").clashOf(0), 1);
        due("E and F", text("E+F+ A+ A- E-F-").clashOf(0), 4);
        // at state 0 the clash is C's, at others A's
        due("of the first clash, not of another", text("C+ A+ A- C- A+ A-").clashOf(0), 2);
        dueOfEach("none: clashOf", NONE, text("A+ A-")::clashOf, 0, 1);
        due("with groups", text("A+ B+ B- A-").clashOf(1), NONE);
        dueOfEach("sound: clashOf", BAD, text("A+ A-")::clashOf, -1, 2, MIN, MAX);
        for (AirSteps x : notSound()) {
            dueOfEach("not sound: clashOf", NOT, x::clashOf, 0, 1);
            dueOfEach("not sound: clashOf", BAD, x::clashOf, -1, 2, MIN, MAX);
        }
    }

    private static void groups() {
        sentence("8: How many GROUPS. NOT.");
        due("the fewest", text("A+ A-").groups(), 2);
        due("the most", text(SIXTEEN).groups(), 16);
        for (AirSteps x : notSound()) due("not sound: groups()", x.groups(), NOT);
    }

    private static void cut() {
        sentence("9: Cut i (from 0): the STEP behind it. BAD: no such one; NOT.");
        AirSteps x = text("A+ A- B+ B-");
        due("cut(0)", x.cut(0), 1);
        due("cut(1)", x.cut(1), 3);
        dueOfEach("two cuts: cut", BAD, x::cut, -1, 2, 3, 4, 15, 16, MIN, MAX);
        AirSteps full = text(SIXTEEN);
        for (int i = 0; i < 16; i++) due("16 cuts: cut(" + i + ")", full.cut(i), i);
        dueOfEach("16 cuts: cut", BAD, full::cut, -1, 16, 17, MIN, MAX);
        for (AirSteps y : notSound()) {
            dueOfEach("not sound: cut", NOT, y::cut, 0, 1);
            dueOfEach("not sound: cut", BAD, y::cut, -1, MIN);
        }
    }

    private static void memories() {
        sentence("10: MEMORIES. NOT.");
        due("the fewest", text("A+ A-").memories(), 0);
        due("the most", text(SIXTEEN).memories(), 3);
        for (AirSteps x : notSound()) due("not sound: memories()", x.memories(), NOT);
    }

    private static void pace() {
        sentence("11: A CYLINDER going OUT (or IN) takes LEAST to MOST: 1. BAD: also least above most.");
        AirSteps x = text("A+ A-");
        dueOfEach("pace of", 1, c -> x.pace(c, true, 1, 1), 0, 5);
        dueOfEach("pace of", BAD, c -> x.pace(c, true, 1, 1), -1, 6, MIN, MAX);
        dueOfEach("pace with least", 1, least -> x.pace(0, true, least, 100), 1, 100);
        dueOfEach("pace with least", BAD, least -> x.pace(0, true, least, 100), 0, 101, MIN, MAX);
        dueOfEach("pace with most", 1, most -> x.pace(0, false, 1, most), 100, 1);
        dueOfEach("pace with most", BAD, most -> x.pace(0, false, 1, most), 0, 101, MIN, MAX);
        dueOfEach("pace with least one above most", BAD, most -> x.pace(0, true, most + 1, most), 1, 2, 50, 99);
        dueOfEach("pace with least like most", 1, both -> x.pace(0, true, both, both), 1, 2, 99, 100);
        due("span(0)", x.span(0), 101);
        due("not sound: pace", new AirSteps().pace(0, true, 1, 1), 1);
    }

    private static void span() {
        sentence("12: SPAN: least (way 0), most (1); SLOWEST (2). BAD; NOT.");
        AirSteps x = text("A+ A-");
        x.pace(0, false, 2, 3);
        due("span(0)", x.span(0), 3);
        due("span(1)", x.span(1), 4);
        due("span(2)", x.span(2), 1);
        dueOfEach("sound: span", BAD, x::span, -1, 3, MIN, MAX);
        for (AirSteps y : notSound()) {
            dueOfEach("not sound: span", NOT, y::span, 0, 1, 2);
            dueOfEach("not sound: span", BAD, y::span, -1, 3, MIN, MAX);
        }
    }

    private static void law() {
        sentence("13: A LAW: a (OUT, or IN) not while b (OUT, or IN): its number. BAD: also a like b; FULL.");
        AirSteps x = new AirSteps();
        checkLawsBad(x);
        due("the first", x.law(0, true, 5, false), 0);
        due("the second, the other way round", x.law(5, true, 0, false), 1);
        for (int i = 2; i < 12; i++) due("the same again", x.law(5, true, 0, false), i);
        due("the thirteenth", x.law(5, true, 0, false), FULL);
        checkLawsBad(x);
        due("count(1)", x.count(1), 12);
    }

    private static void checkLawsBad(AirSteps x) {
        for (int c = 0; c < 6; c++) {
            due("law, a like b: " + c, x.law(c, true, c, false), BAD);
            due("law, a like b: " + c, x.law(c, false, c, false), BAD);
        }
        dueOfEach("law of a", BAD, a -> x.law(a, true, 1, true), -1, 6, MIN, MAX);
        dueOfEach("law of b", BAD, b -> x.law(1, true, b, true), -1, 6, MIN, MAX);
        dueOfEach("law of both", BAD, c -> x.law(c, true, c, true), -1, 6, MIN, MAX);
    }

    private static void repeal() {
        sentence("14: A LAW is no more (those behind it get a number less): 1. BAD.");
        AirSteps x = new AirSteps();
        dueOfEach("no laws: repeal", BAD, x::repeal, 0, -1, 1, MIN, MAX);
        // law i: cylinder 5 goes in while all of 0 .. 4 are OUT; behind them laws that bar nothing here
        for (int b = 0; b < 5; b++) x.law(5, false, b, false);
        for (int i = 5; i < 12; i++) x.law(0, true, 1, true);
        dueOfEach("12 laws: repeal", BAD, x::repeal, -1, 12, MIN, MAX);
        due("home(32) of 5 laws", x.home(32), 11);
        due("repeal(11), the last", x.repeal(11), 1);
        due("repeal(11) again", x.repeal(11), BAD);
        due("home(32) of 5 laws again", x.home(32), 11);
        due("repeal(0), the first", x.repeal(0), 1);
        due("home(32): 0 stays in", x.way(32, 0), 11);
        due("repeal(1): that of cylinder 2 now", x.repeal(1), 1);
        due("home(32): 2 stays in", x.home(32), 7);
        due("the first move", x.way(32, 0), 11);
        due("the second move", x.way(32, 1), 13);
        due("the third move", x.way(32, 2), 14);
        due("count(1)", x.count(1), 9);
        for (int i = 8; i >= 0; i--) {
            due("repeal behind the last", x.repeal(i + 1), BAD);
            due("repeal of the last", x.repeal(i), 1);
        }
        due("repeal(0) of none", x.repeal(0), BAD);
        due("home(32) of none", x.home(32), 1);
        due("a law behind it", x.law(0, true, 1, true), 0);
        for (int gone = 0; gone < 12; gone++) checkOneGone(gone);
    }

    /** Law i is broken by step i alone, so that breach() tells which law is number 0. */
    private static void checkOneGone(int gone) {
        AirSteps x = text("A+ B+ C+ D+ E+ F+ A- B- C- D- E- F-");
        for (int i = 0; i < 12; i++) x.law(i % 6, i < 6, (i + 1) % 6, i >= 5 && i < 11);
        due("repeal(" + gone + ")", x.repeal(gone), 1);
        for (int i = 0; i < 12; i++) {
            if (i == gone) continue;
            due("law " + gone + " is gone, law " + i + " is number 0: breach()", x.breach(), i);
            due("repeal(0)", x.repeal(0), 1);
        }
        due("law " + gone + " is gone, and all others: breach()", x.breach(), NONE);
        due("no law is left: count(1)", x.count(1), 0);
    }

    private static void breach() {
        sentence("15: BREACH; NONE. NOT.");
        AirSteps x = text("A+ A-");
        due("no laws", x.breach(), NONE);
        x.law(0, true, 1, true);
        due("a law that is kept", x.breach(), NONE);
        x.law(0, false, 1, false);
        due("a law that the last step breaks", x.breach(), 1);
        x.law(0, true, 1, false);
        due("a law that the first step breaks", x.breach(), 0);
        for (AirSteps y : notSound()) {
            due("not sound, no laws: breach()", y.breach(), NOT);
            y.law(0, true, 1, false);
            due("not sound: breach()", y.breach(), NOT);
        }
    }

    private static void home() {
        sentence("16: How many MOVES HOME has; NONE: there is no way. BAD: bits of no CYLINDERS.");
        AirSteps x = new AirSteps();
        due("home(0)", x.home(0), 0);
        due("home(1)", x.home(1), 1);
        due("home(32)", x.home(32), 1);
        due("home(62)", x.home(62), 5);
        due("home(63)", x.home(63), 6);
        dueOfEach("home", BAD, x::home, STATES_BAD);
        x.law(5, false, 0, true);
        x.law(5, false, 0, false);
        dueOfEach("no way: home", NONE, x::home, 32, 33, 63);
        due("no way needed: home(0)", x.home(0), 0);
        due("a way: home(31)", x.home(31), 5);
        dueOfEach("with laws: home", BAD, x::home, STATES_BAD);
        x.repeal(1);
        due("a way again: home(32)", x.home(32), 1);
        for (AirSteps y : notSound()) due("not sound: home(63)", y.home(63), 6);
    }

    private static void way() {
        sentence("17: MOVE i (from 0) of HOME: the CYLINDER, and 10 more, if it goes OUT; NONE: it has not so many. BAD.");
        AirSteps x = new AirSteps();
        for (int i = 0; i < 6; i++) due("way(63, " + i + ")", x.way(63, i), i);
        dueOfEach("from 63: way", NONE, i -> x.way(63, i), 6, 7, 64, MAX);
        dueOfEach("from 0: way", NONE, i -> x.way(0, i), 0, 1, MAX);
        dueOfEach("from 63: way", BAD, i -> x.way(63, i), -1, MIN);
        dueOfEach("from 0: way", BAD, i -> x.way(0, i), -1, MIN);
        dueOfEach("move 0: way from", BAD, state -> x.way(state, 0), STATES_BAD);
        dueOfEach("move MAX: way from", BAD, state -> x.way(state, MAX), STATES_BAD);
        dueOfEach("move -1: way from", BAD, state -> x.way(state, -1), STATES_BAD);
        checkTenMore();
        x.law(5, false, 0, true);
        x.law(5, false, 0, false);
        dueOfEach("no way: way", NONE, i -> x.way(32, i), 0, 1, MAX);
        dueOfEach("no way: way", BAD, i -> x.way(32, i), -1, MIN);
        for (AirSteps y : notSound()) due("not sound: way(32, 0)", y.way(32, 0), 5);
    }

    private static void checkTenMore() {
        for (int b = 0; b < 6; b++) {
            int a = b == 0 ? 5 : b - 1;
            AirSteps x = new AirSteps();
            x.law(a, false, b, false);
            due("goes out: " + b, x.way(1 << a, 0), b + 10);
            due("goes in: " + a, x.way(1 << a, 1), a);
            due("goes in again: " + b, x.way(1 << a, 2), b);
            due("no more", x.way(1 << a, 3), NONE);
        }
    }

    private static void stops() {
        sentence("18: The STEP ahead of which a DEAD SENSOR STOPS the machine; NONE. BAD; NOT.");
        AirSteps x = text("A+F+ A-F-");
        dueOfEach("reached by the last step: stops", 0, x::stops, 0, 5);
        dueOfEach("reached by the first step: stops", 1, x::stops, 6, 11);
        dueOfEach("reached by none: stops", NONE, x::stops, 1, 4, 7, 10);
        dueOfEach("sound: stops", BAD, x::stops, -1, 12, MIN, MAX);
        for (AirSteps y : notSound()) {
            for (int sensor = 0; sensor < 12; sensor++) due("not sound: stops(" + sensor + ")", y.stops(sensor), NOT);
            dueOfEach("not sound: stops", BAD, y::stops, -1, 12, MIN, MAX);
        }
    }

    private static void explains() {
        sentence("19: EXPLAINS: told by bits. BAD; NOT.");
        AirSteps x = text("A+F+ A-F-");
        due("explains(0)", x.explains(0), 1 | 1 << 5);
        due("explains(1)", x.explains(1), 1 << 6 | 1 << 11);
        for (int n = 2; n <= 16; n++) {
            AirSteps y = loop(n);
            due("of " + n + ": explains(0)", y.explains(0), 1);
            due("of " + n + ": explains(n - 1)", y.explains(n - 1), n == 2 ? 64 : n == 3 ? 66 : 0);
            dueOfEach("of " + n + ": explains", BAD, y::explains, -1, n, MIN, MAX);
        }
        for (AirSteps y : notSound()) {
            int n = y.count(0);
            for (int k = 0; k < n; k++) due("not sound: explains(" + k + ")", y.explains(k), NOT);
            dueOfEach("not sound, of " + n + ": explains", BAD, y::explains, -1, n, 16, MIN, MAX);
        }
    }

    private static void count() {
        sentence("20: 0 STEPS, 1 LAWS, 2 MOVES of all STEPS. BAD.");
        AirSteps x = new AirSteps();
        dueOfEach("empty: count", 0, x::count, 0, 1, 2);
        dueOfEach("empty: count", BAD, x::count, -1, 3, MIN, MAX);
        for (int k = 0; k < 16; k++) x.step(k % 2 == 0 ? 63 : 0, k % 2 == 0 ? 0 : 63);
        for (int i = 0; i < 12; i++) x.law(0, true, 1, true);
        due("full: count(0)", x.count(0), 16);
        due("full: count(1)", x.count(1), 12);
        due("full: count(2)", x.count(2), 96);
        dueOfEach("full: count", BAD, x::count, -1, 3, MIN, MAX);
        AirSteps open = text("A+B- C-");
        due("not sound: count(0)", open.count(0), 2);
        due("not sound: count(2)", open.count(2), 3);
    }
}
