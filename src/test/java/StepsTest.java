/** Promises 14 to 16: steps of reasoning. */
public final class StepsTest {
    private static final Due DUE = new Due("StepsTest");

    private static void is(String call, long got, long want) {
        DUE.is(call, got, want);
    }

    public static void main(String[] args) {
        crossedWay();
        crossedWayAheadOfOtherRules();
        capAboveLack();
        fewerThanNeeded();
        greaterDifference();
        cutOff();
        cutOffWithTwo();
        cutOffNeedsOutside();
        gradeIsTheGreatestRule();
        brokenOrNone();
        hintChangesNothing();
        steps();
        DUE.end();
    }

    private static void allSteps(String name, IslandBridges x, int[] want) {
        for (int place = 0; place < want.length; place++) {
            is(name + ": hint " + place, x.hint(), want[place]);
            is(name + ": step " + place, x.step(), want[place]);
        }
    }

    private static void crossedWay() {
        IslandBridges x = Boards.of(".2./2.2/.2.");
        is("hint()", x.hint(), 300);
        x.build(0);
        is("step()", x.step(), 101);
        is("way(1, 3)", x.way(1, 3), 0);
        is("way(0, 3)", x.way(0, 3), 2);
        is("broken by it", x.step(), -2);
        is("grade", x.count(10), 1);
    }

    private static void crossedWayAheadOfOtherRules() {
        IslandBridges x = Boards.of("1.2../...2./2...2/...../..122");
        is("rule 2 is possible with way 0", x.hint(), 200);
        is("build(4)", x.build(4), 1);
        is("rule 1 is first", x.step(), 102);
        is("the next crossed way", x.step(), 103);
        is("the one that crosses stays", x.way(4, 3), 2);
        is("hint()", x.hint(), -2);
        x.island(8, 1);
        x.build(4);
        x.cap(2, 0);
        x.cap(3, 0);
        x.island(8, 1);
        x.build(4);
        x.take(4);
        is("no bridges, no rule 1", x.hint(), 200);
    }

    private static void capAboveLack() {
        IslandBridges x = Boards.of("1.2/.../1.4");
        allSteps("lack", x, new int[] {200, 201});
        is("way(0, 3)", x.way(0, 3), 1);
        is("way(1, 3)", x.way(1, 3), 1);
        is("way(3, 3)", x.way(3, 3), 2);
        is("lowest way of rule 2", x.hint(), 203);
        IslandBridges y = Boards.of("3.1.2/...../2....");
        y.build(0);
        is("step()", y.step(), 200);
        is("its bridges plus what is lacking", y.way(0, 3), 1);
        is("step()", y.step(), 202);
        is("cap to the bridges alone", y.way(2, 3), 0);
    }

    private static void fewerThanNeeded() {
        IslandBridges x = Boards.of("4.3/.../2.1");
        allSteps("first caps", x, new int[] {202, 203, 300});
        is("both bridges at once", x.way(0, 2), 2);
        is("grade", x.count(10), 3);
        is("steps", x.count(11), 3);
        allSteps("then", x, new int[] {301, 203, 302, -4});
        is("solved", x.count(7), 1);
        is("grade", x.count(10), 3);
        is("steps", x.count(11), 6);
    }

    private static void greaterDifference() {
        IslandBridges x = Boards.of("3.4.2/...../2....");
        is("step()", x.step(), 300);
        is("the second island tells two", x.way(0, 2), 2);
        IslandBridges y = Boards.of("2.3.4/...../....2");
        is("step()", y.step(), 300);
        is("2 of one, 1 of the other", y.way(0, 2), 2);
    }

    private static void cutOff() {
        IslandBridges x = Boards.of("1.1/.../1.1");
        allSteps("ring of ones", x, new int[] {200, 201, 202, 203, 400, 301, 203, 302, -4});
        is("grade", x.count(10), 4);
        is("steps", x.count(11), 8);
        is("not solved", x.count(7), 0);
    }

    private static void cutOffWithTwo() {
        IslandBridges x = Boards.of("2.2/.../2.2");
        is("step()", x.step(), 400);
        is("cap 1 less", x.way(0, 3), 1);
        allSteps("ring of twos", x, new int[] {301, 203, 302, 401, 300, 202, 303, -4});
        is("solved", x.count(7), 1);
    }

    private static void cutOffNeedsOutside() {
        IslandBridges x = Boards.of("1.1/.../...");
        allSteps("a pair", x, new int[] {200, 300, -4});
        is("solved", x.count(7), 1);
        IslandBridges y = Boards.of("2.2/.../2.2");
        y.build(1);
        y.build(2);
        y.build(3);
        y.cap(1, 1);
        y.cap(2, 1);
        y.cap(3, 1);
        is("the last bridge leaves none out", y.hint(), 200);
        y.cap(0, 1);
        is("so it is needed", y.hint(), 300);
    }

    private static void gradeIsTheGreatestRule() {
        IslandBridges x = Boards.of("1.1/.../1.1");
        x.step();
        is("grade 2", x.count(10), 2);
        x.steps(4);
        is("grade 4", x.count(10), 4);
        x.step();
        x.step();
        is("grade 4 behind 301 and 203", x.count(10), 4);
        x.take(1);
        is("take leaves the grade", x.count(10), 4);
        is("take leaves the steps", x.count(11), 7);
        x.undo();
        x.undo();
        is("undo brings the steps back", x.count(11), 6);
    }

    private static void brokenOrNone() {
        IslandBridges x = new IslandBridges();
        is("no islands: step()", x.step(), -4);
        is("no islands: hint()", x.hint(), -4);
        is("no change", x.count(12), 0);
        x.island(0, 1);
        is("alone: step()", x.step(), -2);
        is("alone: hint()", x.hint(), -2);
        is("alone: steps(5)", x.steps(5), 0);
        is("steps is a change", x.count(12), 2);
        is("step is none", x.count(11), 0);
    }

    private static void hintChangesNothing() {
        IslandBridges x = Boards.of("4.3/.../2.1");
        String before = Boards.picture(x);
        is("hint()", x.hint(), 202);
        DUE.isTrue("nothing has changed", before.equals(Boards.picture(x)));
    }

    private static void steps() {
        IslandBridges x = Boards.of("1.1/.../1.1");
        is("steps(0)", x.steps(0), -1);
        is("steps(-1)", x.steps(-1), -1);
        is("steps(201)", x.steps(201), -1);
        is("count(12)", x.count(12), 1);
        is("steps(1)", x.steps(1), 1);
        is("steps(3)", x.steps(3), 3);
        is("one state a call", x.count(12), 3);
        is("steps(200)", x.steps(200), 4);
        is("steps(200) again", x.steps(200), 0);
        is("count(11)", x.count(11), 8);
        is("undo()", x.undo(), 3);
        is("undo()", x.undo(), 2);
        is("count(11)", x.count(11), 4);
        IslandBridges y = Boards.of(".2./2.2/.2.");
        is("until it is broken", y.steps(200), 2);
        is("count(8)", y.count(8), 1);
    }
}
