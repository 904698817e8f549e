/** Sentences of "What it is" and of "Terms", part 1, that name a boundary case: a test for each. */
public final class TermsTextTest extends Checks {
    /** No step clashes DIRECT but the last one: F is out alone, and step 12 (F+) waits for "A is in". */
    private static final String LATE_CLASH = "E+ D+ F+ E- D- B+ A+ F- E+ D+ B- A- F+ E- D- F-";

    public static void main(String[] args) {
        atMost512Calls();
        sixCylinders();
        sixteenSteps();
        numberedFrom0();
        oneOrMoreMove();
        allAreInAtTheBeginning();
        soundIfItHasAStep();
        noneThatIsOutGoesOut();
        noneThatIsInGoesIn();
        allAreInAgainAtTheEnd();
        statesFrom0ToTheLast();
        toldByBits();
        triggerOfStep0();
        pushedWhileAllSensorsAreOn();
        pushedByAMoveOfAnyStep();
        cutBetweenTheLastAndTheFirst();
        noneMovesTwiceInAGroup();
        fewestCuts();
        cutsThatComeFirst();
        clashWithGroups();
        memories();
        end("TermsTextTest");
    }

    private static void atMost512Calls() {
        sentence("An object is used for at most 512 calls after it has been made");
        checkLast("step(1, 0)", x -> x.step(1, 0), 5);
        checkLast("drop()", x -> x.drop(), 3);
        checkLast("sound()", x -> x.sound(), NONE);
        checkLast("state(2)", x -> x.state(2), 3);
        checkLast("clash(0)", x -> x.clash(0), 0);
        checkLast("clash(1)", x -> x.clash(1), NONE);
        checkLast("clashOf(0)", x -> x.clashOf(0), 0);
        checkLast("clashOf(1)", x -> x.clashOf(1), NONE);
        checkLast("groups()", x -> x.groups(), 2);
        checkLast("cut(1)", x -> x.cut(1), 2);
        checkLast("memories()", x -> x.memories(), 1);
        checkLast("pace(5, false, 100, 100)", x -> x.pace(5, false, 100, 100), 1);
        checkLast("span(1)", x -> x.span(1), 12);
        checkLast("law(1, true, 0, true)", x -> x.law(1, true, 0, true), 1);
        checkLast("repeal(0)", x -> x.repeal(0), 1);
        checkLast("breach()", x -> x.breach(), NONE);
        checkLast("home(3)", x -> x.home(3), 2);
        checkLast("way(3, 0)", x -> x.way(3, 0), 1);
        checkLast("stops(7)", x -> x.stops(7), 2);
        checkLast("explains(3)", x -> x.explains(3), 2);
        checkLast("count(2)", x -> x.count(2), 4);
    }

    private static void checkLast(String call, Call last, int want) {
        due("as call 512: " + call, last.on(behind511Calls()), want);
    }

    private static AirSteps behind511Calls() {
        AirSteps x = new AirSteps();
        for (int round = 0; round < 9; round++) fillAndEmpty(x);
        due("call 508: step", add(x, "A+ B+ B- A-"), 4);
        due("call 509: law(0, false, 1, true)", x.law(0, false, 1, true), 0);
        due("call 510: pace(0, true, 5, 9)", x.pace(0, true, 5, 9), 1);
        due("call 511: span(0)", x.span(0), 8);
        return x;
    }

    /** 56 calls: 16 steps, 12 laws, and all gone again. */
    private static void fillAndEmpty(AirSteps x) {
        for (int k = 0; k < 16; k++) due("many calls: step", x.step(1, 0), k + 1);
        for (int i = 0; i < 12; i++) due("many calls: law", x.law(0, false, 1, i < 6), i);
        for (int k = 15; k >= 0; k--) due("many calls: drop", x.drop(), k);
        for (int i = 0; i < 12; i++) due("many calls: repeal", x.repeal(0), 1);
    }

    private static void sixCylinders() {
        sentence("CYLINDERS are 0 .. [5]");
        AirSteps x = new AirSteps();
        due("step of cylinder 0", x.step(1, 0), 1);
        due("step of cylinder 5", x.step(32, 0), 2);
        due("step(64, 0)", x.step(64, 0), BAD);
        due("step(0, 64)", x.step(0, 64), BAD);
        due("step(32 and 64, 0)", x.step(96, 0), BAD);
        dueOfEach("pace of a cylinder", 1, c -> x.pace(c, true, 1, 1), 0, 5);
        dueOfEach("pace of a cylinder", BAD, c -> x.pace(c, true, 1, 1), -1, 6, MIN, MAX);
        due("law of 0 and 5", x.law(0, true, 5, true), 0);
        due("law of 5 and 0", x.law(5, true, 0, true), 1);
        dueOfEach("law of 1 and a cylinder", BAD, c -> x.law(1, true, c, true), -1, 6, MIN, MAX);
        dueOfEach("law of a cylinder and 1", BAD, c -> x.law(c, true, 1, true), -1, 6, MIN, MAX);
        dueOfEach("home", 1, x::home, 1, 32);
        dueOfEach("home", BAD, x::home, 64, 65, 96);
    }

    private static void sixteenSteps() {
        sentence("THE TEXT is a row of STEPS, 16 at most");
        AirSteps x = new AirSteps();
        for (int k = 0; k < 16; k++) due("step ahead of which are " + k, x.step(1, 0), k + 1);
        due("step 16", x.step(1, 0), FULL);
        due("count(0)", x.count(0), 16);
        due("drop() of 16", x.drop(), 15);
        due("step 15 anew", x.step(0, 1), 16);
        due("step 16 again", x.step(0, 1), FULL);
        due("drop() of 16 again", x.drop(), 15);
        AirSteps full = text(SIXTEEN);
        due("sound() of 16", full.sound(), NONE);
        due("groups() of 16", full.groups(), 16);
    }

    private static void numberedFrom0() {
        sentence("THE TEXT is a row of STEPS, .., numbered from 0");
        due("sound(), the first step is wrong", text("A- A+ A-").sound(), 0);
        AirSteps x = text("A+ A- A+ A- A+ A- A+ A- A+ A- A+ A- A+ A- A+ A+");
        due("sound(), the sixteenth step is wrong", x.sound(), 15);
        AirSteps full = text(SIXTEEN);
        dueOfEach("state", 0, full::state, 0, 14);
        dueOfEach("state", 1, full::state, 1, 15);
        dueOfEach("state", BAD, full::state, -1, 16);
        dueOfEach("explains", BAD, full::explains, -1, 16);
        due("explains(0)", full.explains(0), 1);
        due("explains(15): it stops sooner", full.explains(15), 0);
        due("cut(15)", full.cut(15), 15);
        due("clash(0) at the last state", text(LATE_CLASH).clash(0), 15);
        full.pace(0, true, 1, 2);
        due("span(2): the first step", full.span(2), 0);
    }

    private static void oneOrMoreMove() {
        sentence("in each one or more CYLINDERS move, each OUT or IN, all at once");
        AirSteps x = new AirSteps();
        due("step of none", x.step(0, 0), BAD);
        for (int c = 0; c < 6; c++) {
            due("step out of cylinder " + c, x.step(1 << c, 0), 2 * c + 1);
            due("step in of cylinder " + c, x.step(0, 1 << c), 2 * c + 2);
        }
        due("step of all out", x.step(63, 0), 13);
        due("step of all, some in", x.step(0, 42), 14);
        due("step of all, each one way", x.step(42, 21), 15);
        due("step of all in", x.step(0, 42), 16);
        due("sound()", x.sound(), NONE);
        due("state(15)", x.state(15), 42);
        due("count(2)", x.count(2), 12 + 6 + 3 + 6 + 3);
    }

    private static void allAreInAtTheBeginning() {
        sentence("At THE BEGINNING all are IN");
        for (int c = 0; c < 6; c++) {
            AirSteps x = text(0, 1 << c, 1 << c, 0);
            due("sound(), cylinder " + c + " goes in first", x.sound(), 0);
            AirSteps y = text(1 << c, 0, 0, 1 << c);
            due("sound(), cylinder " + c + " goes out first", y.sound(), NONE);
            due("state(0)", y.state(0), 0);
        }
    }

    private static void soundIfItHasAStep() {
        sentence("THE TEXT is SOUND, if it has a STEP");
        AirSteps x = new AirSteps();
        checkNotSound("a new object", x, 0);
        due("two steps", add(x, "A+ A-"), 2);
        due("sound() of two steps", x.sound(), NONE);
        due("groups() of two steps", x.groups(), 2);
        x.drop();
        checkNotSound("one step", x, 1);
        x.drop();
        checkNotSound("no step any more", x, 0);
    }

    private static void checkNotSound(String name, AirSteps x, int sound) {
        due(name + ": sound()", x.sound(), sound);
        due(name + ": groups()", x.groups(), NOT);
        due(name + ": memories()", x.memories(), NOT);
        due(name + ": breach()", x.breach(), NOT);
        dueOfEach(name + ": clash", NOT, x::clash, 0, 1);
        dueOfEach(name + ": span", NOT, x::span, 0, 1, 2);
        dueOfEach(name + ": stops", NOT, x::stops, 0, 11);
    }

    private static void noneThatIsOutGoesOut() {
        sentence("no CYLINDER that is OUT is to go OUT");
        for (int c = 0; c < 6; c++) {
            int bit = 1 << c;
            due("sound(), out twice: " + c, text(bit, 0, bit, 0, 0, bit).sound(), 1);
            due("sound(), out with all: " + c, text(bit, 0, 63, 0, 0, 63).sound(), 1);
            due("sound(), out last: " + c, text(63, 0, 0, 63 - bit, bit, 0).sound(), 2);
            due("sound(), others out: " + c, text(bit, 0, 63 - bit, 0, 0, 63).sound(), NONE);
        }
    }

    private static void noneThatIsInGoesIn() {
        sentence("none that is IN is to go IN");
        for (int c = 0; c < 6; c++) {
            int bit = 1 << c;
            due("sound(), in twice: " + c, text(bit, 0, 0, bit, 0, bit).sound(), 2);
            due("sound(), in with all: " + c, text(63 - bit, 0, 0, 63).sound(), 1);
            due("sound(), in first: " + c, text(63 - bit, bit, 0, 63 - bit).sound(), 0);
            due("sound(), others in: " + c, text(63, 0, 0, bit, 0, 63 - bit).sound(), NONE);
        }
    }

    private static void allAreInAgainAtTheEnd() {
        sentence("behind the last STEP all are IN again");
        for (int c = 0; c < 6; c++) {
            due("sound(), left out: " + c, text(63, 0, 0, 63 - (1 << c)).sound(), 2);
            due("sound(), out at the end: " + c, text(63, 0, 0, 63, 1 << c, 0).sound(), 3);
        }
        due("sound(), all left out", text(63, 0).sound(), 1);
        due("sound(), all in", text(63, 0, 0, 63).sound(), NONE);
        AirSteps x = text(SIXTEEN);
        x.drop();
        due("sound(), 15 steps, one out", x.sound(), 15);
        due("step 15", x.step(2, 1), 16);
        due("sound(), 16 steps, one out", x.sound(), 16);
    }

    private static void statesFrom0ToTheLast() {
        sentence("STATE k (0 .. n - 1)");
        for (int n = 2; n <= 16; n++) {
            AirSteps x = loop(n);
            due("state(0) of " + n, x.state(0), 0);
            due("state(n - 1) of " + n, x.state(n - 1), 1);
            dueOfEach("of " + n + ": state", BAD, x::state, -1, n, n + 1, MIN, MAX);
        }
        sentence("STATE 0: THE BEGINNING; it is also that behind the last STEP");
        AirSteps x = text("A+B+ A- B- C+ C-");
        due("state(0)", x.state(0), 0);
        due("state(4)", x.state(4), 4);
        due("state(5)", x.state(5), BAD);
    }

    private static void toldByBits() {
        sentence("told by bits: bit c is 1, if CYLINDER c is OUT");
        for (int c = 0; c < 6; c++) {
            AirSteps x = text(1 << c, 0, 63 - (1 << c), 0, 0, 1 << c, 0, 63 - (1 << c));
            due("state(1), out is " + c, x.state(1), 1 << c);
            due("state(2), out are all", x.state(2), 63);
            due("state(3), in is " + c, x.state(3), 63 - (1 << c));
        }
    }

    private static void triggerOfStep0() {
        sentence("The TRIGGER of STEP k are the SENSORS of the ends to which STEP k - 1 (of STEP 0: the last one) moves");
        for (int n = 2; n <= 16; n++) {
            AirSteps x = loop(n);
            due("of " + n + ": stops(0), which the last step reaches", x.stops(0), 0);
            due("of " + n + ": explains(0)", x.explains(0), 1);
        }
        AirSteps x = text("A+ B+ C+ A-B-C-");
        due("explains(0): all ends of the last step", x.explains(0), 7);
        due("explains(1): the end of step 0", x.explains(1), 64);
        due("explains(3): the end of step 2", x.explains(3), 256);
        // step 0 (A+) is triggered by the last one (B-), and B is in while A goes in
        due("clash(0) by step 0", text("A+ A- B+ B-").clash(0), 1);
        // here the last one (A-) is undone while A goes in
        due("clash(0), none by step 0", text("A+ B+ B-A-").clash(0), 2);
        due("clashOf(0), none by step 0", text("A+ B+ B-A-").clashOf(0), 1);
    }

    private static void pushedWhileAllSensorsAreOn() {
        sentence("each MOVE of STEP k is pushed while all SENSORS of its TRIGGER are ON");
        // A- waits for "B is in" and "C is out": at state 0 only the first of them is on
        due("clash(0), one of two is on", text("A+ B+ B-C+ A- C-").clash(0), 2);
        due("clash(0), the only one is on", text("A+ B+ B- A-").clash(0), 0);
        due("clash(0), none of six is on", text("A+B+C+D+E+F+ A-B-C-D-E-F-").clash(0), NONE);
    }

    private static void pushedByAMoveOfAnyStep() {
        sentence("pushed there the other way, too (by a MOVE of any STEP)");
        checkClash("by the last step, at the first state", "A+ B+ B- A-", 0, 0);
        checkClash("by the first step", "A+ A- B+ B-", 1, 0);
        checkClash("by the step ahead, at the last state", "A+ B+ A-B-", 2, 1);
        checkClash("by step 12, at state 15", LATE_CLASH, 15, 5);
        checkClash("by none", "A+ B+ A- B-", NONE, NONE);
        // at state 0 step 2 pushes A out, too, but A does not move in step 0
        checkClash("of one that does not move in the step", "B+ B- A+B+ A-B-", NONE, NONE);
    }

    private static void checkClash(String name, String steps, int state, int cylinder) {
        AirSteps x = text(steps);
        due(name + ": clash(0)", x.clash(0), state);
        due(name + ": clashOf(0)", x.clashOf(0), cylinder);
        x.groups();
        due(name + ": clash(0) behind groups()", x.clash(0), state);
        due(name + ": clashOf(0) behind groups()", x.clashOf(0), cylinder);
    }

    private static void checkCuts(String steps, int... cuts) {
        AirSteps x = text(steps);
        due(steps + ": groups()", x.groups(), cuts.length);
        for (int i = 0; i < cuts.length; i++) due(steps + ": cut(" + i + ")", x.cut(i), cuts[i]);
        due(steps + ": a cut more", x.cut(cuts.length), BAD);
    }

    private static void cutBetweenTheLastAndTheFirst() {
        sentence("the LOOP is cut between STEPS (perhaps also between the last and the first)");
        checkCuts("A+ A-", 0, 1);
        checkCuts("A+ B+ B- A-", 0, 2);
        // not cut there: the last group has the last step and the first
        checkCuts("A+ A- B+ B-", 1, 3);
        checkCuts("A+ B+ B- A- C+ C-", 2, 5);
        // not cut there: the last group begins with the last step and ends with the third
        checkCuts("A+ B+ C+ C- B- A- D+ D-", 3, 7);
    }

    private static void noneMovesTwiceInAGroup() {
        sentence("in none of which a CYLINDER moves twice");
        for (int c = 0; c < 6; c++) {
            AirSteps x = text(1 << c, 0, 0, 1 << c, 1 << c, 0, 0, 1 << c);
            due("groups() of one that moves 4 times: " + c, x.groups(), 4);
            AirSteps y = text(63, 0, 0, 1 << c, 1 << c, 0, 0, 63);
            due("groups() of all with one: " + c, y.groups(), 4);
        }
        // all move once in a group of six steps
        checkCuts("A+ B+ C+ D+ E+ F+ A- B- C- D- E- F-", 0, 6);
        // one of two movers of a step moves again
        checkCuts("A+ B+ C+B- A-C-", 0, 2, 3);
    }

    private static void fewestCuts() {
        sentence("FEWEST cuts");
        due("the fewest of all: groups()", text("A+ A-").groups(), 2);
        due("the most of all: groups()", text(SIXTEEN).groups(), 16);
        // from cut 0 on there would be three of them: A+ | A- B+ | B-
        checkCuts("A+ A- B+ B-", 1, 3);
        // from cut 0 on: A+ B+ | B- C+ A- | C- ; from cut 1 on: B+ | B- C+ A- | C- A+
        checkCuts("A+ B+ B- C+ A- C-", 2, 5);
    }

    private static void cutsThatComeFirst() {
        sentence("of several ways to cut that whose cuts come first (the first cut, .., then the second one, and so on)");
        // 0 2 or 1 3
        checkCuts("A+ B+ A- B-", 0, 2);
        // 0 3, 1 4 or 2 5
        checkCuts("A+ B+ C+ A- B- C-", 0, 3);
        // behind cut 0 the second one may be 1 or 2
        checkCuts("A+ B+ A- A+B- A-", 0, 1, 3, 4);
        // behind the cuts 0 and 1 the third one may be 3 or 4
        checkCuts("A+ A- B+ C+ A+B- A-C-", 0, 1, 3, 5);
        // behind the cuts 0, 1 and 2 the last one may be 3, 4 or 5
        checkCuts("A+B+C+ A- A+ B- C- A-", 0, 1, 2, 3);
    }

    private static void clashWithGroups() {
        sentence("A CLASH with GROUPS is told likewise");
        String[] texts = {"A+ A-", "A+ B+ B- A-", "A+ A- B+ B-", "A+ A- B+ B- C+ C-", "A+ B+ B- A- C+ C- D+ D-", "A+ B+ A-B-",
            LATE_CLASH, SIXTEEN};
        for (String steps : texts) {
            due(steps + ": clash(1)", text(steps).clash(1), NONE);
            due(steps + ": clashOf(1)", text(steps).clashOf(1), NONE);
        }
    }

    private static void memories() {
        sentence("the least number m, so that 2 to the power m is not less than how many STEPS the most of which are ALIKE");
        int[] want = {0, 1, 2, 2, 3, 3, 3, 3};
        AirSteps x = new AirSteps();
        for (int alike = 1; alike <= 8; alike++) {
            // of the cylinders one by one: each goes out at STATE 0
            x.step(1 << (alike - 1) % 6, 0);
            x.step(0, 1 << (alike - 1) % 6);
            due(alike + " are alike: memories()", x.memories(), want[alike - 1]);
        }
        due("none are alike: memories()", text("A+ B+ C+ A- B- C-").memories(), 0);
        due("two and two are alike: memories()", text("A+ B+ C+ C- B- A-").memories(), 1);
        due("all out 5 times: memories()", text("A+B+C+D+E+F+ A- A+ B- B+ C- C+ D- D+ A-B-C-D-E-F-").memories(), 3);
    }
}
