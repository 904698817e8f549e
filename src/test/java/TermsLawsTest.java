/** Sentences of "Terms", parts 2 and 3, that name a boundary case: a test for each. */
public final class TermsLawsTest extends Checks {
    private static final String SINGLES = "A+ B+ C+ D+ E+ F+ A- B- C- D- E- F-";

    public static void main(String[] args) {
        ticksFrom1To100();
        outAndInToldApart();
        oneAndOneAtFirst();
        doneWhenAllMovesAre();
        spanOfTheLoop();
        slowestIsTheFirst();
        twelveLaws();
        mayNotMoveWhile();
        lookedAtByStateAlone();
        notInOneStep();
        firstStepThatBreaksALaw();
        fewestMoves();
        ofSeveralTheFirst();
        allAreInBehindIt();
        deadIsNeverOn();
        aheadOfTheFirstStep();
        withGroupsToo();
        allSensorsThatStopIt();
        end("TermsLawsTest");
    }

    private static String pace(int c, boolean out, int least, int most) {
        return "pace(" + c + ", " + out + ", " + least + ", " + most + ")";
    }

    private static void ticksFrom1To100() {
        sentence("A MOVE of a CYLINDER takes LEAST to MOST ticks (1 .. 100 each");
        int[][] fine = {{1, 1}, {1, 2}, {1, 99}, {1, 100}, {2, 100}, {50, 50}, {99, 100}, {100, 100}};
        int[][] bad = {{0, 0}, {0, 1}, {0, 100}, {-1, 1}, {MIN, 1}, {MIN, MIN}, {1, 101}, {100, 101}, {101, 101},
            {1, MAX}, {MAX, MAX}, {MIN, MAX}, {0, 101}};
        for (int c = 0; c < 6; c++) {
            for (int i = 0; i < 2; i++) {
                AirSteps x = text(1 << c, 0, 0, 1 << c);
                boolean out = i == 0;
                for (int[] b : bad) due(pace(c, out, b[0], b[1]), x.pace(c, out, b[0], b[1]), BAD);
                due("span(0) behind refused paces", x.span(0), 2);
                due("span(1) behind refused paces", x.span(1), 2);
                for (int[] f : fine) {
                    due(pace(c, out, f[0], f[1]), x.pace(c, out, f[0], f[1]), 1);
                    due("span(0) behind it", x.span(0), f[0] + 1);
                    due("span(1) behind it", x.span(1), f[1] + 1);
                }
            }
        }
    }

    private static void outAndInToldApart() {
        sentence("OUT and IN told apart");
        for (int c = 0; c < 6; c++) {
            AirSteps x = text(1 << c, 0, 0, 1 << c);
            x.pace(c, true, 3, 40);
            due("span(0), OUT told of " + c, x.span(0), 4);
            due("span(1), OUT told of " + c, x.span(1), 41);
            due("span(2), OUT told of " + c, x.span(2), 0);
            x.pace(c, false, 10, 50);
            due("span(0), IN told of " + c, x.span(0), 13);
            due("span(1), IN told of " + c, x.span(1), 90);
            due("span(2), IN told of " + c, x.span(2), 1);
        }
        AirSteps x = text(SINGLES);
        for (int c = 0; c < 6; c++) x.pace(c, true, 2, 3);
        due("span(0), OUT told of all", x.span(0), 6 * 2 + 6);
        due("span(1), OUT told of all", x.span(1), 6 * 3 + 6);
    }

    private static void oneAndOneAtFirst() {
        sentence("1 and 1 at first");
        AirSteps x = text(SINGLES);
        due("span(0) of 12 steps", x.span(0), 12);
        due("span(1) of 12 steps", x.span(1), 12);
        due("span(2) of 12 steps", x.span(2), 0);
    }

    private static void doneWhenAllMovesAre() {
        sentence("A STEP is done when all its MOVES are");
        for (int c = 0; c < 6; c++) {
            AirSteps x = text(63, 0, 0, 63);
            for (int other = 0; other < 6; other++) x.pace(other, true, 2, 20);
            x.pace(c, true, 1, 90);
            due("span(0): the others' least is longer", x.span(0), 3);
            due("span(1): the most of " + c + " is longest", x.span(1), 91);
            x.pace(c, true, 7, 7);
            due("span(0): the least of " + c + " is longest", x.span(0), 8);
            due("span(1): the others' most is longer", x.span(1), 21);
        }
    }

    private static void spanOfTheLoop() {
        sentence("SPAN of the LOOP: the least, the most ticks that it may take");
        AirSteps x = text(SIXTEEN);
        due("the least of all: span(0)", x.span(0), 16);
        x.pace(0, true, 1, 100);
        x.pace(0, false, 1, 100);
        due("span(0) with the widest paces", x.span(0), 16);
        due("span(1) with the widest paces", x.span(1), 1600);
        x.pace(0, true, 100, 100);
        x.pace(0, false, 100, 100);
        due("the most of all: span(0)", x.span(0), 1600);
        due("the most of all: span(1)", x.span(1), 1600);
        due("two steps: span(1)", text("F+ F-").span(1), 2);
    }

    private static void slowestIsTheFirst() {
        sentence("SLOWEST: the STEP whose most is greatest, of several the first");
        AirSteps x = text(SINGLES);
        due("all alike: span(2)", x.span(2), 0);
        x.pace(5, false, 1, 2);
        due("the last one alone: span(2)", x.span(2), 11);
        x.pace(4, false, 2, 2);
        due("the last two: span(2)", x.span(2), 10);
        x.pace(1, true, 1, 2);
        due("one sooner: span(2)", x.span(2), 1);
        x.pace(0, true, 1, 2);
        due("the first one, too: span(2)", x.span(2), 0);
        x.pace(5, false, 1, 3);
        due("the last one by one tick: span(2)", x.span(2), 11);
        AirSteps y = text(SIXTEEN);
        y.pace(0, false, 9, 9);
        due("of the steps 1, 3 .. 15: span(2)", y.span(2), 1);
    }

    private static void twelveLaws() {
        sentence("LAWS (12 at most)");
        AirSteps x = new AirSteps();
        for (int i = 0; i < 12; i++) due("law " + i, x.law(0, i % 2 == 0, 1, true), i);
        due("law 12", x.law(0, true, 1, true), FULL);
        due("law 12, another", x.law(5, false, 4, false), FULL);
        due("count(1)", x.count(1), 12);
        due("repeal(11)", x.repeal(11), 1);
        due("law 11 anew", x.law(5, false, 4, false), 11);
        due("law 12 again", x.law(5, false, 4, false), FULL);
        due("home(32) by the twelfth law", x.home(32), 3);
    }

    private static void mayNotMoveWhile() {
        sentence("CYLINDER a may not move (OUT, or IN) while CYLINDER b is OUT (or IN)");
        for (int a = 0; a < 6; a++) {
            for (int b = 0; b < 6; b++) {
                if (a != b) checkMayNotMove(a, b);
            }
        }
    }

    private static void checkMayNotMove(int a, int b) {
        int bitA = 1 << a;
        int bitB = 1 << b;
        // STATES: none, a, a and b, b: a goes out while b is in, and in while b is out
        int[] want = {0, NONE, NONE, 2};
        for (int i = 0; i < 4; i++) {
            AirSteps x = text(bitA, 0, bitB, 0, 0, bitA, 0, bitB);
            String law = "law(" + a + ", " + (i < 2) + ", " + b + ", " + (i % 2 == 1) + ")";
            due(law, x.law(a, i < 2, b, i % 2 == 1), 0);
            due(law + ": breach()", x.breach(), want[i]);
        }
        AirSteps x = new AirSteps();
        x.law(a, false, b, true);
        due("home(a and b), a not in while b is out", x.way(bitA | bitB, 0), b);
        AirSteps y = new AirSteps();
        y.law(a, false, b, false);
        due("home(a), a not in while b is in", y.home(bitA), 3);
        due("its first move", y.way(bitA, 0), b + 10);
    }

    private static void lookedAtByStateAlone() {
        sentence("of STEP k this is looked at by STATE k alone");
        // b goes out in the step ahead of a's, and in in the one behind it
        checkBreach("B+ A+ B- A-", true, true, 1);
        checkBreach("B+ A+ B- A-", true, false, NONE);
        // b goes out in the step behind a's
        checkBreach("A+ B+ A- B-", true, true, NONE);
        checkBreach("A+ B+ A- B-", true, false, 0);
        // STATE 0 of STEP 0, and the last STATE of the last STEP
        checkBreach("A+ B+ B- A-", true, true, NONE);
        checkBreach("A+ B+ B- A-", false, false, 3);
        checkBreach("A+ B+ B- A-", false, true, NONE);
    }

    /** The breach of a law about A while B is at an end, A and B being each pair of cylinders. */
    private static void checkBreach(String steps, boolean out, boolean isOut, int want) {
        for (int a = 0; a < 6; a++) {
            for (int b = 0; b < 6; b++) {
                if (a == b) continue;
                String named = steps.replace('A', 'a').replace('B', (char) ('A' + b)).replace('a', (char) ('A' + a));
                AirSteps x = text(named);
                x.law(a, out, b, isOut);
                due(named + ", law(" + a + ", " + out + ", " + b + ", " + isOut + "): breach()", x.breach(), want);
            }
        }
    }

    private static void notInOneStep() {
        sentence("two CYLINDERS that a LAW names may not move in one STEP, if the one moves as it says");
        // both move in step 0: at STATE 0 cylinder 1 is IN
        checkBreach("A+B+ A- B-", true, true, 0);
        checkBreach("A+B+ A- B-", true, false, 0);
        checkBreach("A+B+ A- B-", false, true, 1);
        checkBreach("A+B+ A- B-", false, false, NONE);
        // both move in step 1, where 1 is OUT
        checkBreach("B+ A+B- A-", true, true, 1);
        checkBreach("B+ A+B- A-", true, false, 1);
        checkBreach("B+ A+B- A-", false, true, NONE);
        checkBreach("B+ A+B- A-", false, false, 2);
        // both move in step 1, where 1 is IN
        checkBreach("A+ A-B+ B-", false, true, 1);
        checkBreach("A+ A-B+ B-", false, false, 1);
        checkBreach("A+ A-B+ B-", true, true, NONE);
        checkBreach("A+ A-B+ B-", true, false, 0);
        // both move in the last step, where 1 is OUT
        checkBreach("A+ B+ A-B-", false, true, 2);
        checkBreach("A+ B+ A-B-", false, false, 2);
        checkBreach("A+ B+ A-B-", true, true, NONE);
        // cylinders that the law does not name may move with it
        AirSteps x = text("A+C+D+ B+E+F+ A-C-E- B-D-F-");
        x.law(0, true, 1, true);
        x.law(1, false, 0, true);
        due("others move with it: breach()", x.breach(), NONE);
    }

    private static void firstStepThatBreaksALaw() {
        sentence("BREACH: the first STEP that breaks a LAW");
        AirSteps x = text(SIXTEEN);
        due("no laws", x.breach(), NONE);
        x.law(0, false, 1, false);
        due("the steps 1, 3 .. 15", x.breach(), 1);
        x.law(0, true, 1, false);
        due("all steps", x.breach(), 0);
        AirSteps y = text("A+ A- A+ A- A+ A- A+ A- A+ A- A+ A- A+ A- F+ F-");
        y.law(5, false, 0, false);
        due("the last step alone", y.breach(), 15);
        y.law(5, true, 0, false);
        due("by the second law sooner", y.breach(), 14);
        y.law(5, true, 0, true);
        due("a law that is kept", y.breach(), 14);
    }

    private static void fewestMoves() {
        sentence("HOME ..: the one with the fewest MOVES");
        AirSteps x = new AirSteps();
        for (int state = 0; state < 64; state++) due("no laws: home(" + state + ")", x.home(state), Integer.bitCount(state));
        AirSteps y = rings();
        int[] moves = {10, 11, 0, 12, 10, 1, 0, 3, 10, 11, 0, 2, 10, 1, 0};
        due("a long way: home(8)", y.home(8), 15);
        for (int i = 0; i < 15; i++) due("a long way: way(8, " + i + ")", y.way(8, i), moves[i]);
        due("a long way: way(8, 15)", y.way(8, 15), NONE);
        due("a longer way: home(56)", y.home(56), 17);
        due("a longer way: way(56, 14)", y.way(56, 14), 0);
        due("a longer way: way(56, 15)", y.way(56, 15), 4);
        due("a longer way: way(56, 16)", y.way(56, 16), 5);
        due("a longer way: way(56, 17)", y.way(56, 17), NONE);
    }

    /** Rings on a bar: 1, 2 and 3 move only while the one below is OUT and all below that are IN. */
    private static AirSteps rings() {
        AirSteps x = new AirSteps();
        for (int a = 1; a < 4; a++) {
            for (int b = 0; b < a; b++) {
                x.law(a, true, b, b < a - 1);
                x.law(a, false, b, b < a - 1);
            }
        }
        due("laws of the rings: count(1)", x.count(1), 12);
        return x;
    }

    private static void checkWay(AirSteps x, int state, int... moves) {
        due("home(" + state + ")", x.home(state), moves.length);
        for (int i = 0; i < moves.length; i++) due("way(" + state + ", " + i + ")", x.way(state, i), moves[i]);
        due("way(" + state + ", ..), one more", x.way(state, moves.length), NONE);
    }

    private static void ofSeveralTheFirst() {
        sentence("of several the first (by the CYLINDER of the first MOVE, then of the second, and so on)");
        checkWay(new AirSteps(), 63, 0, 1, 2, 3, 4, 5);
        AirSteps x = new AirSteps();
        x.law(0, false, 5, true);
        // 5 goes in ahead of 0, but 1 .. 4 can go ahead of both
        checkWay(x, 63, 1, 2, 3, 4, 5, 0);
        checkWay(x, 51, 1, 4, 5, 0);
        AirSteps y = new AirSteps();
        y.law(5, false, 4, false);
        y.law(5, false, 3, false);
        // 5 goes in while 3 and 4 are out: both go out first, and the least of them ahead of the other
        checkWay(y, 32, 13, 14, 5, 3, 4);
        checkWay(y, 33, 0, 13, 14, 5, 3, 4);
    }

    private static void allAreInBehindIt() {
        sentence("HOME from a STATE ..: a row of MOVES, .., behind which all are IN");
        AirSteps x = rings();
        checkWay(x, 0);
        for (int state = 0; state < 16; state++) {
            int at = state;
            for (int i = 0; i < x.home(state); i++) at ^= 1 << (x.way(state, i) % 10);
            due("behind home from " + state, at, 0);
        }
    }

    private static void deadIsNeverOn() {
        sentence("A SENSOR that is DEAD is never ON");
        AirSteps x = text("A+ A-");
        due("stops(0): A is in", x.stops(0), 0);
        due("stops(6): A is out", x.stops(6), 1);
        dueOfEach("stops", NONE, x::stops, 1, 2, 3, 4, 5, 7, 8, 9, 10, 11);
        AirSteps y = text("F+ F-");
        due("stops(5): F is in", y.stops(5), 0);
        due("stops(11): F is out", y.stops(11), 1);
        dueOfEach("stops", BAD, y::stops, -1, 12);
    }

    private static void aheadOfTheFirstStep() {
        sentence("It STOPS the machine, that begins at STATE 0 with STEP 0, ahead of the first STEP whose TRIGGER has it");
        AirSteps x = text("B+ B- A+ A- A+ A- B+ B-");
        due("stops(1), of the TRIGGERS 0 and 2", x.stops(1), 0);
        due("stops(7), of the TRIGGERS 1 and 7", x.stops(7), 1);
        due("stops(6), of the TRIGGERS 3 and 5", x.stops(6), 3);
        due("stops(0), of the TRIGGERS 4 and 6", x.stops(0), 4);
        AirSteps y = text("A+ A- A+ A- A+ A- A+ A- A+ A- A+ A- A+ A- F+ F-");
        due("stops(5), of TRIGGER 0", y.stops(5), 0);
        due("stops(11), of TRIGGER 15", y.stops(11), 15);
    }

    private static void withGroupsToo() {
        sentence("with GROUPS, too: the LINE of a GROUP gets air by the TRIGGER of its first STEP");
        AirSteps x = text("A+ A- B+ B-");
        due("the second cut", x.cut(1), 3);
        due("stops(7), of the TRIGGER of the first step of a group", x.stops(7), 3);
        due("stops(0), of the TRIGGER of the second step of a group", x.stops(0), 2);
    }

    private static void allSensorsThatStopIt() {
        sentence("EXPLAINS: all SENSORS that, DEAD alone, STOP it ahead of STEP k");
        AirSteps all = text("A+B+C+D+E+F+ A-B-C-D-E-F-");
        due("explains(0), all that are in", all.explains(0), 63);
        due("explains(1), all that are out", all.explains(1), 63 << 6);
        AirSteps x = text("A+ A-B+ A+B- A- C+ C-");
        due("explains(0)", x.explains(0), 4);
        due("explains(1)", x.explains(1), 1 << 6);
        due("explains(2)", x.explains(2), 1 | 1 << 7);
        due("explains(3): A is out stops it sooner", x.explains(3), 2);
        due("explains(4): A is in stops it sooner", x.explains(4), 0);
        due("explains(5)", x.explains(5), 1 << 8);
        AirSteps full = text(SIXTEEN);
        due("explains(2) of 16: A is in stops it ahead of step 0", full.explains(2), 0);
        due("explains(14) of 16: A is in stops it ahead of step 0", full.explains(14), 0);
        due("explains(15) of 16: A is out stops it ahead of step 1", full.explains(15), 0);
        due("explains(15) of 16: one",
            text("A+ A- A+ A- A+ A- A+ A- A+ A- A+ A- A+ A- F+ F-").explains(15), 1 << 11);
    }
}
