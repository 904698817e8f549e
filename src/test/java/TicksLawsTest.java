/** Promises 11 to 17: pace, span, law, repeal, breach, home, way. */
public final class TicksLawsTest extends Checks {
    public static void main(String[] args) {
        pacesRefused();
        pacesAtTheEdges();
        spans();
        slowest();
        spansRefused();
        lawsRefused();
        lawsFull();
        repealed();
        breachByState();
        breachInOneStep();
        breachRefused();
        homeWithoutLaws();
        homeWithLaws();
        homeByGoingOut();
        noWayHome();
        end("TicksLawsTest");
    }

    private static void pacesRefused() {
        AirSteps x = text(1, 0, 0, 1);
        int[][] bad = {{-1, 1, 1}, {6, 1, 1}, {MIN, 1, 1}, {MAX, 1, 1}, {0, 0, 1}, {0, 0, 0}, {0, -1, 5}, {0, MIN, 5},
            {0, 5, 101}, {0, 101, 101}, {0, 1, MAX}, {0, 5, 4}, {0, 100, 99}, {0, 1, 0}, {0, MAX, MIN}};
        for (int[] b : bad) {
            due("pace(" + b[0] + ", true, " + b[1] + ", " + b[2] + ")", x.pace(b[0], true, b[1], b[2]), BAD);
            due("pace(" + b[0] + ", false, " + b[1] + ", " + b[2] + ")", x.pace(b[0], false, b[1], b[2]), BAD);
        }
        due("span(0) behind refused paces", x.span(0), 2);
        due("span(1) behind refused paces", x.span(1), 2);
    }

    private static void pacesAtTheEdges() {
        AirSteps x = text(32, 0, 0, 32);
        due("pace(5, true, 100, 100)", x.pace(5, true, 100, 100), 1);
        due("pace(5, false, 1, 100)", x.pace(5, false, 1, 100), 1);
        due("span(0) at the edges", x.span(0), 101);
        due("span(1) at the edges", x.span(1), 200);
        due("pace(5, true, 1, 1)", x.pace(5, true, 1, 1), 1);
        due("span(0) with the pace told again", x.span(0), 2);
        due("span(1) with the pace told again", x.span(1), 101);
    }

    private static void spans() {
        AirSteps x = text(3, 0, 4, 1, 0, 6);
        due("span(0) at first", x.span(0), 3);
        due("span(1) at first", x.span(1), 3);
        due("span(2) at first", x.span(2), 0);
        x.pace(0, true, 2, 30);
        x.pace(1, true, 5, 20);
        x.pace(2, true, 3, 4);
        x.pace(0, false, 1, 9);
        x.pace(1, false, 7, 8);
        x.pace(3, true, 50, 90);
        due("span(0): 5 + 3 + 7", x.span(0), 15);
        due("span(1): 30 + 9 + 8", x.span(1), 47);
        due("span(2)", x.span(2), 0);
        x.pace(2, false, 40, 60);
        due("span(0): 5 + 3 + 40", x.span(0), 48);
        due("span(1): 30 + 9 + 60", x.span(1), 99);
        due("span(2) with another pace", x.span(2), 2);
    }

    private static void slowest() {
        AirSteps x = text(1, 0, 2, 0, 4, 0, 0, 7);
        x.pace(1, true, 1, 8);
        x.pace(2, true, 7, 8);
        due("span(2): of several the first", x.span(2), 1);
        x.pace(2, true, 7, 9);
        due("span(2): the greatest", x.span(2), 2);
        x.pace(0, true, 9, 9);
        due("span(2): least does not matter", x.span(2), 0);
        x.pace(1, false, 1, 10);
        due("span(2): the last step", x.span(2), 3);
    }

    private static void spansRefused() {
        AirSteps none = new AirSteps();
        AirSteps open = text(1, 0);
        AirSteps loop = text(1, 0, 0, 1);
        for (int way = 0; way < 3; way++) {
            due("span(" + way + ") without steps", none.span(way), NOT);
            due("span(" + way + "), not sound", open.span(way), NOT);
        }
        int[] bad = {-1, 3, MIN, MAX};
        for (int way : bad) {
            due("span(" + way + ") without steps", none.span(way), BAD);
            due("span(" + way + "), not sound", open.span(way), BAD);
            due("span(" + way + ")", loop.span(way), BAD);
        }
    }

    private static void checkBadLaws(AirSteps x) {
        int[][] bad = {{0, 0}, {5, 5}, {6, 0}, {0, 6}, {-1, 0}, {0, -1}, {MIN, 0}, {0, MIN}, {MAX, 0}, {0, MAX}, {6, 6}};
        for (int[] b : bad) {
            due("law(" + b[0] + ", true, " + b[1] + ", false)", x.law(b[0], true, b[1], false), BAD);
            due("law(" + b[0] + ", false, " + b[1] + ", true)", x.law(b[0], false, b[1], true), BAD);
        }
    }

    private static void lawsRefused() {
        AirSteps x = new AirSteps();
        checkBadLaws(x);
        due("count(1) behind refused laws", x.count(1), 0);
        due("home(63) behind refused laws", x.home(63), 6);
    }

    private static void lawsFull() {
        AirSteps x = new AirSteps();
        for (int i = 0; i < 12; i++) due("law " + i, x.law(5, true, 0, true), i);
        due("law 12", x.law(0, false, 1, false), FULL);
        due("law 12 again", x.law(5, true, 0, true), FULL);
        checkBadLaws(x);
        due("count(1) of 12 laws", x.count(1), 12);
        due("home(1) of 12 laws", x.home(1), 1);
        due("repeal(12)", x.repeal(12), BAD);
        due("repeal(11)", x.repeal(11), 1);
        due("law 11 anew", x.law(0, false, 1, false), 11);
        due("home(1) with it", x.home(1), 3);
        due("law 12 once more", x.law(0, false, 1, false), FULL);
    }

    private static void repealed() {
        AirSteps x = text(1, 0, 2, 0, 4, 0, 0, 7);
        due("repeal(0) of none", x.repeal(0), BAD);
        x.law(0, true, 5, false);
        x.law(1, true, 5, false);
        x.law(2, true, 5, false);
        int[] bad = {-1, 3, MIN, MAX};
        for (int law : bad) due("repeal(" + law + ")", x.repeal(law), BAD);
        due("count(1) behind refused repeals", x.count(1), 3);
        due("breach() of three laws", x.breach(), 0);
        due("repeal(0)", x.repeal(0), 1);
        due("breach() without the first", x.breach(), 1);
        due("repeal(1): that of cylinder 2", x.repeal(1), 1);
        due("breach() without the last", x.breach(), 1);
        due("count(1) of one", x.count(1), 1);
        due("repeal(1) of one", x.repeal(1), BAD);
        due("law(2, ..) again", x.law(2, true, 5, false), 1);
        due("repeal(0) of two", x.repeal(0), 1);
        due("breach() of the last alone", x.breach(), 2);
        due("repeal(0) of one", x.repeal(0), 1);
        due("breach() of none", x.breach(), NONE);
        due("repeal(0) of none again", x.repeal(0), BAD);
    }

    private static void breachByState() {
        AirSteps x = text(1, 0, 2, 0, 0, 1, 0, 2);
        due("breach() without laws", x.breach(), NONE);
        int[] want = {
            // cylinder 0: IN while 1 IN, IN while 1 OUT, OUT while 1 IN, OUT while 1 OUT
            NONE, 2, 0, NONE,
            // cylinder 1 likewise, of cylinder 0
            3, NONE, NONE, 1};
        for (int i = 0; i < 8; i++) {
            int a = i / 4;
            boolean out = i / 2 % 2 == 1;
            boolean isOut = i % 2 == 1;
            due("law of breach " + i, x.law(a, out, 1 - a, isOut), 0);
            due("breach() " + i, x.breach(), want[i]);
            due("repeal of breach " + i, x.repeal(0), 1);
        }
        x.law(1, false, 0, false);
        x.law(0, false, 1, true);
        due("breach(): the first step, not the first law", x.breach(), 2);
    }

    private static void breachInOneStep() {
        // both go out at once: by state 0 cylinder 1 is IN
        AirSteps x = text(3, 0, 0, 1, 0, 2);
        x.law(0, true, 1, true);
        due("breach(): both move, the one as it says", x.breach(), 0);
        x.repeal(0);
        x.law(0, false, 1, false);
        due("breach(): 0 goes in while 1 is out", x.breach(), NONE);
        x.repeal(0);
        x.law(1, false, 0, true);
        due("breach(): both move, but the one not as it says", x.breach(), NONE);
        AirSteps y = text(1, 0, 2, 1, 0, 2);
        y.law(0, false, 1, true);
        due("breach(): the one goes in, the other out", y.breach(), 1);
        y.repeal(0);
        y.law(1, true, 0, false);
        due("breach(): the other one named first", y.breach(), 1);
        y.repeal(0);
        y.law(0, true, 1, true);
        due("breach(): 0 goes out alone", y.breach(), NONE);
    }

    private static void breachRefused() {
        AirSteps x = new AirSteps();
        due("breach() without steps", x.breach(), NOT);
        x.step(1, 0);
        x.law(0, true, 1, false);
        due("breach(), not sound", x.breach(), NOT);
        x.step(0, 1);
        due("breach(), sound", x.breach(), 0);
    }

    private static void checkWay(String name, AirSteps x, int state, int... moves) {
        due(name + ": home(" + state + ")", x.home(state), moves.length);
        for (int i = 0; i < moves.length; i++) due(name + ": way(" + state + ", " + i + ")", x.way(state, i), moves[i]);
        due(name + ": way behind the last", x.way(state, moves.length), NONE);
        due(name + ": way(" + state + ", max)", x.way(state, MAX), NONE);
        due(name + ": way(" + state + ", -1)", x.way(state, -1), BAD);
    }

    private static void homeWithoutLaws() {
        AirSteps x = new AirSteps();
        checkWay("no laws", x, 0);
        checkWay("no laws", x, 1, 0);
        checkWay("no laws", x, 42, 1, 3, 5);
        checkWay("no laws", x, 63, 0, 1, 2, 3, 4, 5);
        int[] bad = {-1, 64, MIN, MAX};
        for (int state : bad) {
            due("home(" + state + ")", x.home(state), BAD);
            due("way(" + state + ", 0)", x.way(state, 0), BAD);
            due("way(" + state + ", -1)", x.way(state, -1), BAD);
        }
        due("way(0, -1)", x.way(0, -1), BAD);
        due("way(0, min)", x.way(0, MIN), BAD);
    }

    private static void homeWithLaws() {
        AirSteps x = new AirSteps();
        x.law(0, false, 1, true);
        x.law(1, false, 2, true);
        checkWay("0 behind 1 behind 2", x, 7, 2, 1, 0);
        checkWay("0 behind 1 behind 2", x, 3, 1, 0);
        checkWay("0 behind 1 behind 2", x, 63, 2, 1, 0, 3, 4, 5);
        checkWay("0 behind 1 behind 2", x, 5, 0, 2);
        due("repeal(0)", x.repeal(0), 1);
        checkWay("1 behind 2", x, 7, 0, 2, 1);
    }

    private static void homeByGoingOut() {
        AirSteps x = new AirSteps();
        x.law(1, false, 0, false);
        checkWay("1 goes in while 0 is out", x, 2, 10, 1, 0);
        checkWay("1 goes in while 0 is out", x, 3, 1, 0);
        x.law(0, true, 5, false);
        checkWay("and 0 goes out while 5 is out", x, 2, 15, 10, 1, 0, 5);
        // cylinder 0 may go in ahead of 5 or behind it
        checkWay("and 0 goes out while 5 is out", x, 34, 10, 1, 0, 5);
        AirSteps y = new AirSteps();
        y.law(1, false, 2, false);
        y.law(1, false, 3, false);
        checkWay("two must be out", y, 2, 12, 13, 1, 2, 3);
    }

    private static void noWayHome() {
        AirSteps x = new AirSteps();
        x.law(2, false, 3, true);
        x.law(2, false, 3, false);
        for (int state = 0; state < 64; state++) {
            boolean stuck = (state & 4) != 0;
            due("stuck: home(" + state + ")", x.home(state), stuck ? NONE : Integer.bitCount(state));
            if (stuck) due("stuck: way(" + state + ", 0)", x.way(state, 0), NONE);
        }
        due("stuck: way(4, -1)", x.way(4, -1), BAD);
        due("stuck: way(4, max)", x.way(4, MAX), NONE);
        due("stuck: repeal(0)", x.repeal(0), 1);
        checkWay("free again", x, 12, 2, 3);
        checkWay("free again", x, 4, 13, 2, 3);
    }
}
