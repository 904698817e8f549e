import java.util.function.ToIntFunction;

/** What the tests share: answers against those that are due, and texts told in letters. */
abstract class Checks {
    static final int NONE = -1, BAD = -2, NOT = -3, FULL = -4;
    static final int MIN = Integer.MIN_VALUE;
    static final int MAX = Integer.MAX_VALUE;
    /** The text of 16 steps that has no two steps side by side in one group. */
    static final String SIXTEEN = "A+ A- A+ A- A+ A- A+ A- A+ A- A+ A- A+ A- A+ A-";

    interface Call {
        int on(AirSteps x);
    }

    private static String sentence = "";
    private static int wrong = 0;

    /** The words of the document that the checks from here on are of. */
    static void sentence(String words) {
        sentence = words;
    }

    static void due(String call, Object got, Object want) {
        if (got.equals(want)) return;
        wrong++;
        if (!sentence.isEmpty()) System.out.println("\"" + sentence + "\":");
        System.out.println(call + " answered " + got + ", due is " + want);
    }

    /** One call with each of several arguments, all of which have the same answer. */
    static void dueOfEach(String call, int want, ToIntFunction<Integer> asked, int... arguments) {
        for (int argument : arguments) due(call + "(" + argument + ")", asked.applyAsInt(argument), want);
    }

    static void end(String test) {
        System.out.println(test + (wrong == 0 ? ": all as due" : ": " + wrong + " wrong"));
        if (wrong != 0) System.exit(1);
    }

    /** Pairs: outs, ins of one step and the next. */
    static AirSteps text(int... pairs) {
        AirSteps x = new AirSteps();
        for (int i = 0; i + 1 < pairs.length; i += 2) x.step(pairs[i], pairs[i + 1]);
        return x;
    }

    /** A text like "A+ B+C+ A- B-C-". */
    static AirSteps text(String steps) {
        AirSteps x = new AirSteps();
        add(x, steps);
        return x;
    }

    /** Adds such a text; what the last step answered. */
    static int add(AirSteps x, String steps) {
        int answer = 0;
        for (String step : steps.split(" ")) answer = x.step(bits(step, '+'), bits(step, '-'));
        return answer;
    }

    private static int bits(String step, char sign) {
        int bits = 0;
        for (int i = 0; i + 1 < step.length(); i += 2) {
            if (step.charAt(i + 1) == sign) bits |= 1 << (step.charAt(i) - 'A');
        }
        return bits;
    }

    /** A sound text of 2 .. 16 steps, of which the last one moves cylinder 0 IN alone. */
    static AirSteps loop(int steps) {
        AirSteps x = text(steps % 2 == 0 ? "A+ A-" : "B+ A+B- A-");
        while (x.count(0) < steps) add(x, "A+ A-");
        return x;
    }
}
