/** Promises 1 to 5 and 20: a new object, step, drop, sound, state, count. */
public final class TextTest extends Checks {
    public static void main(String[] args) {
        newObject();
        stepsRefused();
        stepsFull();
        dropped();
        firstWrongStep();
        wrongAtTheEnd();
        states();
        counts();
        objectsApart();
        end("TextTest");
    }

    private static void newObject() {
        AirSteps x = new AirSteps();
        due("new: count(0)", x.count(0), 0);
        due("new: count(1)", x.count(1), 0);
        due("new: count(2)", x.count(2), 0);
        due("new: sound()", x.sound(), 0);
        due("new: home(63)", x.home(63), 6);
        due("new: repeal(0)", x.repeal(0), BAD);
        due("new: explains(0)", x.explains(0), BAD);
    }

    private static void stepsRefused() {
        AirSteps x = new AirSteps();
        int[][] bad = {{0, 0}, {1, 1}, {3, 6}, {63, 32}, {64, 0}, {0, 64}, {65, 2}, {-1, 0}, {0, -1},
            {1, -2}, {MIN, 0}, {0, MIN}, {MAX, 0}, {0, 128}, {1, 64}};
        for (int[] b : bad) due("step(" + b[0] + ", " + b[1] + ")", x.step(b[0], b[1]), BAD);
        due("count(0) behind refused steps", x.count(0), 0);
        due("count(2) behind refused steps", x.count(2), 0);
        due("step(32, 31)", x.step(32, 31), 1);
        due("step(0, 63)", x.step(0, 63), 2);
        due("step(63, 0)", x.step(63, 0), 3);
    }

    private static void stepsFull() {
        AirSteps x = new AirSteps();
        for (int k = 0; k < 16; k++) {
            int bit = 1 << (k / 2 % 6);
            due("step " + k, k % 2 == 0 ? x.step(bit, 0) : x.step(0, bit), k + 1);
        }
        due("16 steps: sound()", x.sound(), NONE);
        due("step 16", x.step(1, 0), FULL);
        due("step 16 that is bad", x.step(0, 0), BAD);
        due("step 16 both ways", x.step(1, 1), BAD);
        due("step 16 of no cylinder", x.step(64, 0), BAD);
        due("16 steps: count(0)", x.count(0), 16);
        due("16 steps: count(2)", x.count(2), 16);
        due("16 steps: sound() again", x.sound(), NONE);
        due("16 steps: state(15)", x.state(15), 2);
        due("16 steps: state(16)", x.state(16), BAD);
        due("16 steps: drop()", x.drop(), 15);
        due("15 steps: step", x.step(0, 2), 16);
        due("16 steps: sound() at last", x.sound(), NONE);
    }

    private static void dropped() {
        AirSteps x = new AirSteps();
        due("drop() of none", x.drop(), NOT);
        x.step(1, 0);
        x.step(2, 1);
        x.step(0, 2);
        due("drop() of 3", x.drop(), 2);
        due("sound() of 2", x.sound(), 2);
        x.step(4, 2);
        due("sound() with another end", x.sound(), 3);
        x.step(0, 4);
        due("sound() with another loop", x.sound(), NONE);
        due("state(3) of another loop", x.state(3), 4);
        for (int left = 3; left >= 0; left--) due("drop() to " + left, x.drop(), left);
        due("drop() of none again", x.drop(), NOT);
        due("count(0) of none", x.count(0), 0);
        due("sound() of none", x.sound(), 0);
    }

    private static void firstWrongStep() {
        AirSteps x = new AirSteps();
        x.step(0, 4);
        due("sound(): in, but is in", x.sound(), 0);
        x.step(0, 8);
        due("sound(): the first of two", x.sound(), 0);
        AirSteps y = new AirSteps();
        y.step(5, 0);
        y.step(2, 1);
        y.step(4, 0);
        y.step(0, 7);
        due("sound(): out, but is out", y.sound(), 2);
        AirSteps z = new AirSteps();
        z.step(5, 0);
        z.step(2, 1);
        z.step(8, 5);
        due("sound(): one of two goes in, but is in", z.sound(), 2);
    }

    private static void wrongAtTheEnd() {
        AirSteps x = new AirSteps();
        x.step(32, 0);
        due("sound() of one step", x.sound(), 1);
        x.step(1, 32);
        due("sound() of two steps", x.sound(), 2);
        x.step(0, 1);
        due("sound() of the loop", x.sound(), NONE);
    }

    private static void states() {
        AirSteps x = new AirSteps();
        due("state(0) of none", x.state(0), BAD);
        x.step(33, 0);
        x.step(2, 1);
        due("state(0), not sound", x.state(0), NOT);
        due("state(1), not sound", x.state(1), NOT);
        due("state(2), not sound", x.state(2), BAD);
        due("state(-1), not sound", x.state(-1), BAD);
        x.step(1, 34);
        x.step(0, 1);
        int[] want = {0, 33, 34, 1};
        for (int k = 0; k < 4; k++) due("state(" + k + ")", x.state(k), want[k]);
        due("state(4)", x.state(4), BAD);
        due("state(-1)", x.state(-1), BAD);
        due("state(max)", x.state(MAX), BAD);
        due("state(min)", x.state(MIN), BAD);
    }

    private static void counts() {
        AirSteps x = new AirSteps();
        x.step(33, 6);
        x.step(63, 0);
        x.law(0, true, 1, true);
        due("count(0)", x.count(0), 2);
        due("count(1)", x.count(1), 1);
        due("count(2) of a text that is not sound", x.count(2), 10);
        due("count(3)", x.count(3), BAD);
        due("count(-1)", x.count(-1), BAD);
        due("count(min)", x.count(MIN), BAD);
        x.drop();
        due("count(2) behind drop()", x.count(2), 4);
        x.repeal(0);
        due("count(1) behind repeal(0)", x.count(1), 0);
    }

    private static void objectsApart() {
        AirSteps x = new AirSteps();
        AirSteps y = new AirSteps();
        x.step(1, 0);
        x.step(0, 1);
        x.law(0, false, 1, false);
        x.pace(0, true, 9, 9);
        due("other object: count(0)", y.count(0), 0);
        due("other object: count(1)", y.count(1), 0);
        due("other object: home(1)", y.home(1), 1);
        y.step(1, 0);
        y.step(0, 1);
        due("other object: span(1)", y.span(1), 2);
    }
}
