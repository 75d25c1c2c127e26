/** Promises 14 to 16: each sentence about steps and grades that names an edge. */
public final class StepsEdgesTest {
    private static final Due DUE = new Due("StepsEdgesTest");
    private static final int MIN = Integer.MIN_VALUE;
    private static final int MAX = Integer.MAX_VALUE;

    private static void is(String call, long got, long want) {
        DUE.is(call, got, want);
    }

    public static void main(String[] args) {
        crossedWay();
        crossedWayNeedsACap();
        capAboveTheLack();
        capIsTheLack();
        lesserOfBothLacks();
        tooFewBridges();
        enoughBridges();
        greaterOfBothDifferences();
        cutOff();
        cutOffNeedsACapAboveTheBridges();
        cutOffNeedsAllComplete();
        cutOffNeedsAnIslandOutside();
        cutOffCapBecomesOneLess();
        lowestRuleFirst();
        lowestWayOfARule();
        stepTells();
        brokenBoard();
        noStep();
        hintIsAsStep();
        stepsRanges();
        stepsAtMostSoMany();
        stepsUntilBroken();
        stepsThatMakeNone();
        gradeIsTheGreatestRule();
        gradeByChangesOfIslands();
        gradeByClear();
        gradeNotByTake();
        gradeByUndo();
        DUE.end();
    }

    private static void crossedWay() {
        DUE.by("1 a way without bridges and with a cap above 0 crosses a way with bridges: its cap becomes 0;");
        for (int cap = 1; cap <= 2; cap++) {
            IslandBridges x = Boards.of("..2../.2.2./..2../.2.2.");
            int row = x.between(6, 8);
            int column = x.between(2, 12);
            is("they cross", x.way(row, 5), 1);
            x.build(column);
            x.cap(row, cap);
            is("cap " + cap + ": step()", x.step(), 100 + row);
            is("cap " + cap + ": its cap", x.way(row, 3), 0);
            is("cap " + cap + ": the other cap", x.way(column, 3), 2);
            is("cap " + cap + ": no bridges by it", x.way(row, 2), 0);
            is("cap " + cap + ": grade", x.count(10), 1);
        }
    }

    private static void crossedWayNeedsACap() {
        IslandBridges x = Boards.of(".2./2.2/.2.");
        is("both without bridges", x.hint(), 300);
        x.build(0);
        is("one with bridges", x.hint(), 101);
        x.take(0);
        is("none any more", x.hint(), 300);
        IslandBridges y = Boards.of("..2../.2.2./..2../.2.2.");
        int row = y.between(6, 8);
        int column = y.between(2, 12);
        y.build(column);
        is("a cap above 0", y.step(), 100 + row);
        is("a cap of 0: another rule", y.hint() / 100, 3);
    }

    private static void capAboveTheLack() {
        DUE.by("2 the cap of a way is greater than its bridges plus what one of its islands lacks: its cap becomes its bridges "
            + "plus the lesser one of what both lack;");
        IslandBridges x = Boards.of("3.1.2/...../2....");
        is("2 above 0 + 1", x.step(), 200);
        is("its cap", x.way(0, 3), 1);
        IslandBridges y = Boards.of("1.3/.../..2");
        y.build(0);
        is("2 above 1 + 0", y.step(), 200);
        is("its cap", y.way(0, 3), 1);
        is("its bridges", y.way(0, 2), 1);
        IslandBridges z = Boards.of("2.1.2/...../2.1.2");
        z.build(0);
        is("2 above 1 + 0", z.step(), 200);
        is("2 above 0 + 1", z.step(), 201);
        is("2 above 0 + 0", z.step(), 202);
        is("its cap", z.way(2, 3), 0);
        is("2 above 0 + 0, downward", z.step(), 203);
        is("its cap", z.way(3, 3), 0);
    }

    private static void capIsTheLack() {
        IslandBridges x = Boards.of("1.1/.../...");
        x.cap(0, 1);
        is("1 is 0 + 1", x.hint(), 300);
        IslandBridges y = Boards.of("2.2/.../...");
        is("2 is 0 + 2", y.hint(), 300);
        y.build(0);
        is("2 is 1 + 1", y.hint(), 300);
        y.build(0);
        is("2 is 2 + 0", y.hint(), -4);
        IslandBridges z = Boards.of("3.3/.../3.3");
        is("2 is below 0 + 3", z.hint(), 300);
    }

    private static void lesserOfBothLacks() {
        IslandBridges first = Boards.of("1.3/.../..2");
        is("the first lacks less", first.step(), 200);
        is("its cap", first.way(0, 3), 1);
        IslandBridges second = Boards.of("3.1/.../2..");
        is("the second lacks less", second.step(), 200);
        is("its cap", second.way(0, 3), 1);
        IslandBridges x = Boards.of("1.2.1/...../..2..");
        x.build(1);
        x.build(2);
        is("the second lacks 0, the first 1", x.step(), 200);
        is("its cap", x.way(0, 3), 0);
        IslandBridges y = Boards.of("2.1/.../1.1");
        y.build(1);
        y.build(3);
        is("the first lacks 1, the second 1", y.step(), 200);
        is("its cap", y.way(0, 3), 1);
    }

    private static void tooFewBridges() {
        DUE.by("3 the bridges of a way are fewer than the number of one of its islands minus the sum of the caps of the other "
            + "ways of this island:");
        IslandBridges one = Boards.of("3.3/.../3.3");
        is("0 below 3 - 2", one.step(), 300);
        is("its bridges", one.way(0, 2), 1);
        is("its cap stays", one.way(0, 3), 2);
        IslandBridges two = Boards.of("4.4/.../4.4");
        is("0 below 4 - 2", two.step(), 300);
        is("both at once", two.way(0, 2), 2);
        IslandBridges more = Boards.of("4.4/.../4.4");
        more.build(0);
        is("1 below 4 - 2", more.step(), 300);
        is("as many in all", more.way(0, 2), 2);
        IslandBridges capped = Boards.of("2.3/.../2.3");
        capped.cap(1, 0);
        is("0 below 2 - 0", capped.step(), 300);
        is("its bridges", capped.way(0, 2), 2);
        IslandBridges alone = Boards.of("2.2/.../...");
        is("without other ways", alone.step(), 300);
        is("its bridges", alone.way(0, 2), 2);
    }

    private static void enoughBridges() {
        IslandBridges x = Boards.of("3.3/.../3.3");
        x.build(0);
        is("1 is 3 - 2: the next way", x.hint(), 301);
        x.build(1);
        x.build(2);
        x.build(3);
        is("all have 1", x.hint(), -4);
        IslandBridges y = Boards.of("2.2/.../2.2");
        is("0 is 2 - 2: rule 4", y.hint(), 400);
        y.cap(1, 1);
        is("0 below 2 - 1", y.hint(), 300);
    }

    private static void greaterOfBothDifferences() {
        DUE.by("it gets as many bridges in all as the greater one of these two differences (of both its islands) tells;");
        IslandBridges second = Boards.of("3.4.2/...../2....");
        is("1 of the first, 2 of the second", second.step(), 300);
        is("its bridges", second.way(0, 2), 2);
        IslandBridges first = Boards.of("4.3.2/...../2....");
        is("2 of the first, 1 of the second", first.step(), 300);
        is("its bridges", first.way(0, 2), 2);
        IslandBridges below = Boards.of("2.3.2/...../..2..");
        is("2 of the first, -1 of the second", below.step(), 300);
        is("its bridges", below.way(0, 2), 2);
    }

    private static void cutOff() {
        DUE.by("all islands of the group in which its two islands would be would be complete, and some island would not be in "
            + "this group: its cap becomes 1 less.");
        IslandBridges two = Boards.of("2.2/.../2.2");
        is("two bridges", two.step(), 400);
        is("its cap", two.way(0, 3), 1);
        is("its bridges", two.way(0, 2), 0);
        IslandBridges one = Boards.of("1.1/.../1.1");
        is("steps(4)", one.steps(4), 4);
        is("one bridge", one.step(), 400);
        is("its cap", one.way(0, 3), 0);
        IslandBridges more = Boards.of("2.2/.../2.2");
        more.build(0);
        more.build(3);
        more.cap(1, 1);
        more.cap(2, 1);
        is("a bridge more", more.step(), 400);
        is("its cap", more.way(0, 3), 1);
        is("its bridges", more.way(0, 2), 1);
        IslandBridges joined = Boards.of("1.2.1/...../1.2.1");
        joined.build(0);
        joined.build(5);
        int[] caps = {1, 0, 1, 1, 1, 1, 1};
        for (int way = 0; way < 7; way++) {
            joined.cap(way, caps[way]);
        }
        is("a group of more than two", joined.step(), 402);
        is("its cap", joined.way(2, 3), 0);
    }

    private static void cutOffNeedsACapAboveTheBridges() {
        DUE.by("4 the cap of a way is above its bridges, and if it had as many bridges as its cap tells (all other ways as they "
            + "are)");
        IslandBridges x = Boards.of("2.2/.../2.2");
        x.build(0);
        x.build(0);
        is("its cap is its bridges: another rule and way", x.hint(), 201);
        IslandBridges y = Boards.of("1.1/.../1.1");
        y.build(0);
        y.cap(0, 1);
        y.cap(1, 0);
        y.cap(2, 0);
        y.build(3);
        y.cap(3, 1);
        is("two groups that are complete", y.count(6), 2);
        is("no step", y.hint(), -4);
    }

    private static void cutOffNeedsAllComplete() {
        IslandBridges x = Boards.of("2.3.2/...../2.3.2");
        is("way 0 leaves 1 open, way 1 is the first one", x.hint(), 401);
        x.build(3);
        is("the islands of way 0 would be complete, but not the one joined to them", x.hint(), 401);
        IslandBridges y = Boards.of("2.3.2/...../1.3.2");
        y.build(0);
        is("steps(2)", y.steps(2), 2);
        is("both of way 2 would be complete, but not the first island of all", y.step(), 404);
    }

    private static void cutOffNeedsAnIslandOutside() {
        IslandBridges x = Boards.of("2.2/.../2.2");
        x.build(1);
        x.build(2);
        x.build(3);
        for (int way = 1; way <= 3; way++) {
            x.cap(way, 1);
        }
        x.cap(0, 1);
        is("all would be joined", x.hint(), 300);
        IslandBridges y = Boards.of("2.2/.../...");
        is("two islands in all", y.hint(), 300);
        is("steps(200)", y.steps(200), 1);
        is("solved", y.count(7), 1);
    }

    private static void cutOffCapBecomesOneLess() {
        DUE.by("its cap becomes 1 less.");
        IslandBridges x = Boards.of("2.2/.../2.2");
        is("way(0, 3)", x.way(0, 3), 2);
        x.step();
        is("way(0, 3) then", x.way(0, 3), 1);
        is("the others", x.way(1, 3) + x.way(2, 3) + x.way(3, 3), 6);
        is("count(4)", x.count(4), 0);
    }

    private static void lowestRuleFirst() {
        DUE.by("A step of reasoning is the first one of these that is possible, of one rule that with the lowest way:");
        IslandBridges one = Boards.of("1.2../...2./2...2/...../..122");
        is("rule 2 with way 0", one.hint(), 200);
        one.build(4);
        is("rule 1 with way 2 ahead of it", one.hint(), 102);
        IslandBridges two = Boards.of("4.3/.../2.1");
        is("rule 2 with way 2 ahead of rule 3 with way 0", two.hint(), 202);
        two.step();
        is("rule 2 with way 3 ahead of it too", two.step(), 203);
        is("rule 3 with way 0", two.hint(), 300);
        IslandBridges three = Boards.of("2.2.../....../2.2.../...2.2");
        is("rule 3 with way 4 ahead of rule 4 with way 0", three.step(), 304);
        is("rule 4 with way 0", three.step(), 400);
    }

    private static void lowestWayOfARule() {
        IslandBridges one = Boards.of("..22./2...2/2...2/..22.");
        one.build(one.between(2, 17));
        is("rule 1", one.step(), 100 + one.between(5, 9));
        is("rule 1 again", one.step(), 100 + one.between(10, 14));
        IslandBridges two = Boards.of("1.1/.../1.1");
        is("rule 2", two.step(), 200);
        is("rule 2", two.step(), 201);
        is("rule 2", two.step(), 202);
        is("rule 2", two.step(), 203);
        IslandBridges three = Boards.of("4.4/.../4.4");
        is("rule 3", three.step(), 300);
        is("rule 3", three.step(), 301);
        is("rule 3", three.step(), 302);
        is("rule 3", three.step(), 303);
        is("none", three.step(), -4);
    }

    private static void stepTells() {
        DUE.by("Returns 100 times its rule plus its way; NOT_POSSIBLE if the board is broken; NOT_FOUND if there is none.");
        IslandBridges x = Boards.full();
        for (int cell = 0; cell < 144; cell++) {
            if (x.at(cell) == 8) {
                x.island(cell, x.islandInfo(cell, 3) == 2 ? 2 : 3);
            }
        }
        is("no step", x.step(), -4);
        x.island(104, 1);
        int downward = x.between(80, 104);
        is("rule 2 downward", x.step(), 200 + downward);
        is("the last way of all", x.step(), 237);
        is("way(37, 1)", x.way(37, 1), 104);
        is("way(37, 3)", x.way(37, 3), 1);
        is("then", x.step(), -4);
    }

    private static void brokenBoard() {
        DUE.by("NOT_POSSIBLE if the board is broken;");
        IslandBridges none = Boards.of("1../.../...");
        is("no step, broken: step()", none.step(), -2);
        is("no step, broken: hint()", none.hint(), -2);
        IslandBridges possible = Boards.of("1.3/.../...");
        is("rule 2 would be possible: step()", possible.step(), -2);
        is("rule 2 would be possible: hint()", possible.hint(), -2);
        is("way(0, 3)", possible.way(0, 3), 2);
        IslandBridges byCap = Boards.of("2.2/.../...");
        byCap.cap(0, 1);
        is("by a cap: step()", byCap.step(), -2);
        byCap.cap(0, 2);
        is("not any more: step()", byCap.step(), 300);
        is("count(12)", byCap.count(12), 4);
    }

    private static void noStep() {
        DUE.by("NOT_FOUND if there is none.");
        IslandBridges empty = new IslandBridges();
        is("no islands: step()", empty.step(), -4);
        is("no islands: hint()", empty.hint(), -4);
        is("count(12)", empty.count(12), 0);
        IslandBridges solved = Boards.of("1.1/.../...");
        solved.build(0);
        solved.cap(0, 1);
        is("solved: step()", solved.step(), -4);
        is("solved: count(12)", solved.count(12), 3);
        IslandBridges open = Boards.of("3.3/.../3.3");
        is("steps(200)", open.steps(200), 4);
        is("open, not broken: count(7)", open.count(7), 0);
        is("open, not broken: count(8)", open.count(8), 0);
        is("open: step()", open.step(), -4);
        is("open: hint()", open.hint(), -4);
    }

    private static void hintIsAsStep() {
        DUE.by("Tells the step that step() would make. Nothing changes.");
        for (int step = 0; step < 9; step++) {
            IslandBridges x = Boards.of("1.1/.../1.1");
            for (int made = 0; made < step; made++) {
                x.step();
            }
            String before = Boards.picture(x);
            int hint = x.hint();
            is("hint() again", x.hint(), hint);
            DUE.isSame("step " + step, Boards.picture(x), before);
            is("step()", x.step(), hint);
            is("there are eight", hint >= 0 ? 1 : 0, step < 8 ? 1 : 0);
        }
    }

    private static void stepsRanges() {
        DUE.by("Returns how many are made; INVALID_ARGUMENT if most is out of range.");
        int[] outside = {0, 201, -1, 202, MIN, MAX};
        for (int most : outside) {
            IslandBridges x = Boards.of("1.1/.../1.1");
            is("steps(" + most + ")", x.steps(most), -1);
            is("count(11)", x.count(11), 0);
            is("count(12)", x.count(12), 1);
            is("hint()", x.hint(), 200);
            is("no islands: steps(" + most + ")", new IslandBridges().steps(most), -1);
            is("broken: steps(" + most + ")", Boards.of("1../.../...").steps(most), -1);
        }
        is("steps(1)", Boards.of("1.1/.../1.1").steps(1), 1);
        is("steps(2)", Boards.of("1.1/.../1.1").steps(2), 2);
        is("steps(199)", Boards.of("1.1/.../1.1").steps(199), 8);
        is("steps(200)", Boards.of("1.1/.../1.1").steps(200), 8);
    }

    private static void stepsAtMostSoMany() {
        DUE.by("Makes steps, as long as there is one and the board is not broken, but at most so many.");
        for (int most = 1; most <= 10; most++) {
            IslandBridges x = Boards.of("1.1/.../1.1");
            IslandBridges y = Boards.of("1.1/.../1.1");
            int made = 0;
            for (int step = 0; step < most; step++) {
                made += y.step() >= 0 ? 1 : 0;
            }
            is("steps(" + most + ")", x.steps(most), made);
            is("made", made, Math.min(8, most));
            is("steps(" + most + "): count(11)", x.count(11), made);
            is("steps(" + most + "): count(12)", x.count(12), 2);
            DUE.isSame("as so many of step()", Boards.pictureOfState(x), Boards.pictureOfState(y));
        }
    }

    private static void stepsUntilBroken() {
        IslandBridges x = Boards.of(".2./2.2/.2.");
        is("steps(200)", x.steps(200), 2);
        is("way(0, 2)", x.way(0, 2), 2);
        is("way(1, 3)", x.way(1, 3), 0);
        is("broken", x.count(8), 1);
        is("step()", x.step(), -2);
        is("steps(200) again", x.steps(200), 0);
        is("count(11)", x.count(11), 2);
    }

    private static void stepsThatMakeNone() {
        DUE.by("The changes are the calls of begin, island, removeIsland, build, take, cap, clear, step, steps, make and load that "
            + "return no error.");
        IslandBridges none = new IslandBridges();
        is("no islands: steps(1)", none.steps(1), 0);
        is("no islands: count(12)", none.count(12), 1);
        IslandBridges broken = Boards.of("1../.../...");
        is("broken: steps(200)", broken.steps(200), 0);
        is("broken: count(12)", broken.count(12), 2);
        is("broken: undo()", broken.undo(), 1);
        IslandBridges done = Boards.of("1.1/.../...");
        done.steps(200);
        is("solved: steps(1)", done.steps(1), 0);
        is("solved: count(12)", done.count(12), 3);
        is("solved: count(11)", done.count(11), 2);
        is("solved: count(10)", done.count(10), 3);
    }

    private static void gradeIsTheGreatestRule() {
        DUE.by("The grade of the board is the greatest rule of all steps that were made since all bridges were taken away the last "
            + "time");
        IslandBridges x = Boards.of("1.1/.../1.1");
        is("0 if there was none", x.count(10), 0);
        int[] grades = {2, 2, 2, 2, 4, 4, 4, 4};
        for (int step = 0; step < 8; step++) {
            x.step();
            is("behind step " + step, x.count(10), grades[step]);
            is("steps behind step " + step, x.count(11), step + 1);
        }
        x.step();
        is("a step that is none", x.count(11), 8);
        x.hint();
        is("a hint is none", x.count(11), 8);
        IslandBridges one = Boards.of(".2./2.2/.2.");
        one.build(0);
        is("a bridge built is none", one.count(11), 0);
        one.step();
        is("rule 1", one.count(10), 1);
        IslandBridges three = Boards.of("2.2/.../...");
        three.steps(1);
        is("rule 3", three.count(10), 3);
    }

    private static void gradeByChangesOfIslands() {
        DUE.by("(by a change of islands, or by clear, whether there were bridges or not; not by take), 0 if there was none.");
        for (int kind = 0; kind < 7; kind++) {
            IslandBridges x = Boards.of("1.1/.../1.1");
            x.steps(2);
            is("grade ahead", x.count(10), 2);
            switch (kind) {
                case 0: x.island(0, 1); break;
                case 1: x.island(0, 2); break;
                case 2: x.island(4, 1); break;
                case 3: x.removeIsland(8); break;
                case 4: Boards.write(x, "1.1/.../1.1"); x.load(); break;
                case 5: x.make(0, 2); break;
                default: x.begin(3, 3); break;
            }
            is("kind " + kind + ": count(10)", x.count(10), 0);
            is("kind " + kind + ": count(11)", x.count(11), 0);
        }
    }

    private static void gradeByClear() {
        IslandBridges without = Boards.of("1.1/.../1.1");
        without.steps(5);
        is("no bridges", without.count(4), 0);
        is("count(10)", without.count(10), 4);
        is("clear()", without.clear(), 0);
        is("count(10)", without.count(10), 0);
        is("count(11)", without.count(11), 0);
        IslandBridges with = Boards.of("1.1/.../1.1");
        with.steps(200);
        is("clear()", with.clear(), 2);
        is("count(10)", with.count(10), 0);
        is("count(11)", with.count(11), 0);
        with.step();
        is("counted from then on", with.count(11), 1);
        is("graded from then on", with.count(10), 2);
    }

    private static void gradeNotByTake() {
        IslandBridges x = Boards.of("2.2/.../...");
        x.step();
        x.take(0);
        x.take(0);
        is("no bridges", x.count(4), 0);
        is("count(10)", x.count(10), 3);
        is("count(11)", x.count(11), 1);
        x.cap(0, 1);
        is("nor by cap", x.count(11), 1);
        x.build(0);
        is("nor by build", x.count(10), 3);
    }

    private static void gradeByUndo() {
        DUE.by("each change records everything before it but the text");
        IslandBridges x = Boards.of("1.1/.../1.1");
        x.steps(5);
        x.clear();
        is("undo()", x.undo(), 2);
        is("count(10)", x.count(10), 4);
        is("count(11)", x.count(11), 5);
        is("undo()", x.undo(), 1);
        is("count(10)", x.count(10), 0);
        is("count(11)", x.count(11), 0);
        x.step();
        is("undo()", x.undo(), 1);
        is("count(11)", x.count(11), 0);
        is("hint()", x.hint(), 200);
    }
}
