/** Promises 18 and 19: stops, explains. */
public final class SensorsTest extends Checks {
    public static void main(String[] args) {
        refused("no steps", new AirSteps(), 0);
        refused("open end", text(1, 0, 2, 1), 2);
        refused("wrong step", text(1, 0, 0, 2, 0, 1), 3);
        check("two steps", text(1, 0, 0, 1), 0, 0, 6, 1);
        check("four steps", text(1, 0, 2, 0, 0, 2, 0, 1), 0, 0, 6, 1, 7, 2, 1, 3);
        check("at once", text(33, 0, 2, 1, 0, 34), 1, 0, 5, 0, 6, 1, 11, 1, 7, 2, 0, 2);
        // cylinder 0 goes in by the steps 1 and 3, out by 0 and 2: the first trigger tells
        check("twice", text(1, 0, 0, 1, 1, 0, 0, 1, 2, 0, 0, 2), 1, 0, 6, 1, 0, 2, 7, 5);
        // the last step tells the trigger of the first one, not that behind it
        check("last and middle", text(1, 0, 0, 1, 2, 0, 1, 0, 0, 3), 0, 0, 1, 0, 6, 1, 7, 3);
        end("SensorsTest");
    }

    private static void badArguments(String name, AirSteps x, int steps) {
        int[] bad = {-1, 12, 13, MIN, MAX};
        for (int sensor : bad) due(name + ": stops(" + sensor + ")", x.stops(sensor), BAD);
        int[] none = {-1, steps, 16, MIN, MAX};
        for (int step : none) due(name + ": explains(" + step + ")", x.explains(step), BAD);
    }

    private static void refused(String name, AirSteps x, int steps) {
        for (int s = 0; s < 12; s++) due(name + ": stops(" + s + ")", x.stops(s), NOT);
        for (int k = 0; k < steps; k++) due(name + ": explains(" + k + ")", x.explains(k), NOT);
        badArguments(name, x, steps);
    }

    /** Pairs: a sensor and the step ahead of which it stops; all others stop nothing. */
    private static void check(String name, AirSteps x, int... pairs) {
        int[] stops = new int[12];
        java.util.Arrays.fill(stops, NONE);
        for (int i = 0; i + 1 < pairs.length; i += 2) stops[pairs[i]] = pairs[i + 1];
        int steps = x.count(0);
        int[] explains = new int[steps];
        for (int s = 0; s < 12; s++) {
            due(name + ": stops(" + s + ")", x.stops(s), stops[s]);
            if (stops[s] >= 0) explains[stops[s]] |= 1 << s;
        }
        for (int k = 0; k < steps; k++) due(name + ": explains(" + k + ")", x.explains(k), explains[k]);
        badArguments(name, x, steps);
    }
}
