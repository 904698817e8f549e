/** Promises 6 to 10: clash, clashOf, groups, cut, memories. */
public final class ClashGroupsTest extends Checks {
    public static void main(String[] args) {
        refusals();
        clashes();
        noClashes();
        cuts();
        memoryNumbers();
        changedTexts();
        end("ClashGroupsTest");
    }

    private static void checkRefused(String when, AirSteps x) {
        for (int way = 0; way < 2; way++) {
            due(when + ": clash(" + way + ")", x.clash(way), NOT);
            due(when + ": clashOf(" + way + ")", x.clashOf(way), NOT);
        }
        checkBadWays(when, x);
        due(when + ": groups()", x.groups(), NOT);
        due(when + ": cut(0)", x.cut(0), NOT);
        due(when + ": cut(1)", x.cut(1), NOT);
        due(when + ": cut(-1)", x.cut(-1), BAD);
        due(when + ": cut(min)", x.cut(MIN), BAD);
        due(when + ": memories()", x.memories(), NOT);
    }

    private static void checkBadWays(String when, AirSteps x) {
        int[] bad = {-1, 2, 3, MIN, MAX};
        for (int way : bad) {
            due(when + ": clash(" + way + ")", x.clash(way), BAD);
            due(when + ": clashOf(" + way + ")", x.clashOf(way), BAD);
        }
    }

    private static void refusals() {
        checkRefused("no steps", new AirSteps());
        checkRefused("open end", text("A+ A-B+"));
        checkRefused("wrong step", text("A+ A+ A-"));
        AirSteps x = text("A+ A-");
        due("sound at first: groups()", x.groups(), 2);
        x.drop();
        checkRefused("no more sound", x);
    }

    private static void checkClash(String steps, int state, int cylinder) {
        AirSteps x = text(steps);
        due(steps + ": clashOf(0)", x.clashOf(0), cylinder);
        due(steps + ": clash(0)", x.clash(0), state);
        due(steps + ": clash(1)", x.clash(1), NONE);
        due(steps + ": clashOf(1)", x.clashOf(1), NONE);
        due(steps + ": clash(0) again", x.clash(0), state);
        checkBadWays(steps, x);
    }

    private static void clashes() {
        checkClash("A+ B+ B- A-", 0, 0);
        checkClash("F+ E+ E- F-", 0, 5);
        // a cylinder that goes in is pushed out: B is in all the while
        checkClash("A+ A- B+ B-", 1, 0);
        checkClash("F+ F- E+ E-", 1, 5);
        // B goes out, but C is in, which lets B go in
        checkClash("A+ B+ A- C+ C- B-", 1, 1);
        // two clash at once
        checkClash("C+D+ E+ E- C-D-", 0, 2);
        checkClash("F+D+ E+ E- F-D-", 0, 3);
        // at state 0 one of the two sensors for A- is on; only all of them push
        checkClash("A+ B+ B-C+ A- C-", 2, 1);
        checkClash("B+ A+ A-C+ B- C-", 2, 0);
    }

    private static void noClashes() {
        checkClash("A+ A-", NONE, NONE);
        checkClash("A+ B+ A- B-", NONE, NONE);
        checkClash("A+B+C+D+E+F+ A-B-C-D-E-F-", NONE, NONE);
        checkClash("A+ B+C+ A- B-C-", NONE, NONE);
        checkClash("A+ B+ C+ D+ E+ F+ A- B- C- D- E- F-", NONE, NONE);
        // the same move told twice is no push the other way
        checkClash("A+B+ A-C+ A+C- B-C+ A-C-", NONE, NONE);
    }

    private static void checkCuts(String steps, int... cuts) {
        AirSteps x = text(steps);
        due(steps + ": groups()", x.groups(), cuts.length);
        for (int i = 0; i < cuts.length; i++) due(steps + ": cut(" + i + ")", x.cut(i), cuts[i]);
        due(steps + ": groups() again", x.groups(), cuts.length);
        due(steps + ": cut behind the last", x.cut(cuts.length), BAD);
        due(steps + ": cut(-1)", x.cut(-1), BAD);
        due(steps + ": cut(min)", x.cut(MIN), BAD);
        due(steps + ": cut(max)", x.cut(MAX), BAD);
        due(steps + ": clash(1)", x.clash(1), NONE);
        due(steps + ": clashOf(1)", x.clashOf(1), NONE);
    }

    private static void cuts() {
        // with a cut between the last step and the first
        checkCuts("A+ A-", 0, 1);
        checkCuts("A+ B+ B- A-", 0, 2);
        checkCuts("A+ B+ C+ D+ E+ F+ F- E- D- C- B- A-", 0, 6);
        checkCuts("A+B+ A-C+ B-C-", 0, 1, 2);
        checkCuts("A+B+C+D+E+F+ A-B-C-D-E-F-", 0, 1);
        // without one: the last group goes on at the beginning
        checkCuts("A+ A- B+ B-", 1, 3);
        checkCuts("A+ B+ A- C+ B- C-", 1, 4);
        checkCuts("A+ B+ B- A- C+ C-", 2, 5);
        // of several ways the one whose cuts come first
        checkCuts("A+ B+ A- B-", 0, 2);
        checkCuts("A+ B+ C+ A- B- C-", 0, 3);
        checkCuts("A+ A- B+ C+ A+ A- B- C-", 0, 1, 2, 5);
        checkCuts("A+ A- A+ B+ C+ A- B- C-", 0, 1, 2, 5);
        checkCuts("A+ A- A+ A- A+ A- A+ A- A+ A- A+ A- A+ A- A+ A-",
            0, 1, 2, 3, 4, 5, 6, 7, 8, 9, 10, 11, 12, 13, 14, 15);
    }

    private static void checkMemories(String steps, int want) {
        due(steps + ": memories()", text(steps).memories(), want);
    }

    private static void memoryNumbers() {
        int[] want = {0, 1, 2, 2, 3, 3, 3, 3};
        StringBuilder steps = new StringBuilder();
        for (int rounds = 1; rounds <= 8; rounds++) {
            steps.append(rounds == 1 ? "A+ A-" : " A+ A-");
            checkMemories(steps.toString(), want[rounds - 1]);
        }
        checkMemories("A+ B+ A- B-", 0);
        checkMemories("A+ B+ B- A-", 1);
        // the most are alike at a state that is not the beginning
        checkMemories("A+ B+ B- B+ B- B+ B- A-", 2);
        checkMemories("F+ E+ E- D+ D- C+ C- B+ B- F-", 3);
        // two pairs are not four
        checkMemories("A+ B+ C+ C- B- A-", 1);
    }

    private static void changedTexts() {
        AirSteps x = text("A+ B+ B- A-");
        due("first text: clash(0)", x.clash(0), 0);
        due("first text: cut(1)", x.cut(1), 2);
        x.drop();
        x.drop();
        x.step(0, 1);
        x.step(0, 2);
        due("second text: clash(0)", x.clash(0), NONE);
        due("second text: memories()", x.memories(), 0);
        x.step(0, 2);
        due("step 4 is wrong: sound()", x.sound(), 4);
        due("not sound: groups()", x.groups(), NOT);
        x.drop();
        x.step(1, 0);
        x.step(0, 1);
        due("third text: groups()", x.groups(), 4);
        due("third text: cut(1)", x.cut(1), 1);
        due("third text: cut(2)", x.cut(2), 3);
        due("third text: cut(3)", x.cut(3), 5);
    }
}
