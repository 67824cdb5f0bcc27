/** Each promise by examples worked out by hand: ordinary inputs, edges and wrong inputs. */
public final class PromiseTest {
    private static final int MIN = Integer.MIN_VALUE;
    private static final int MAX = Integer.MAX_VALUE;
    private static int wrong = 0;

    private static void due(String what, int got, int want) {
        if (got != want) {
            wrong++;
            System.out.println(what + " answered " + got + ", due is " + want);
        }
    }

    /** Two jobs in a row: 5 to 3 days at 4 each, then 6 to 3 days at 7 each. */
    private static CrashPlanner twoInARow() {
        CrashPlanner x = new CrashPlanner();
        x.add(0, 2, 5, 3, 4);
        x.add(2, 5, 6, 3, 7);
        return x;
    }

    /** The longest way there is: five jobs of 9 days, each of which can save 3. */
    private static CrashPlanner longestWay() {
        CrashPlanner x = new CrashPlanner();
        for (int event = 0; event < 5; event++) {
            x.add(event, event + 1, 9, 6, 20);
        }
        return x;
    }

    private static void promise1NewObject() {
        CrashPlanner x = new CrashPlanner();
        due("1: slowest", x.slowest(), 0);
        due("1: fastest", x.fastest(), 0);
        due("1: cost(0)", x.cost(0), 0);
        due("1: cost(MAX)", x.cost(MAX), 0);
        due("1: step(0)", x.step(0), 0);
        due("1: within(0)", x.within(0), 0);
        due("1: total(200)", x.total(200), 0);
        due("1: drop(0)", x.drop(0), -1);
        due("1: price(0, 5)", x.price(0, 5), -1);
        due("1: first add", x.add(0, 5, 3, 2, 1), 1);
        CrashPlanner other = new CrashPlanner();
        due("1: objects are apart", other.slowest(), 0);
        due("1: first object keeps its job", x.slowest(), 3);
    }

    private static void promise2AddAnswers() {
        CrashPlanner x = new CrashPlanner();
        for (int count = 1; count <= 7; count++) {
            due("2: add number " + count, x.add(0, 5, count, count, 1), count);
        }
        due("2: add of an eighth", x.add(0, 5, 9, 9, 1), -1);
        due("2: the eighth changed nothing", x.slowest(), 7);
        due("2: drop of the seventh", x.drop(6), 6);
        due("2: room again", x.add(0, 5, 9, 8, 1), 7);
        due("2: the new one counts", x.slowest(), 9);
    }

    private static void promise2AddEdges() {
        CrashPlanner x = new CrashPlanner();
        due("2: least of all", x.add(0, 1, 0, 0, 1), 1);
        due("2: greatest of all", x.add(4, 5, 9, 9, 20), 2);
        due("2: widest times", x.add(0, 5, 9, 6, 20), 3);
        due("2: widest times from 0", x.add(0, 5, 3, 0, 20), 4);
        due("2: same job twice", x.add(0, 5, 3, 0, 20), 5);
    }

    private static void promise2AddWrong() {
        CrashPlanner x = twoInARow();
        int[][] bad = {
            {-1, 5, 9, 9, 1}, {MIN, 5, 9, 9, 1}, {0, 6, 9, 9, 1}, {0, MAX, 9, 9, 1},
            {0, 0, 9, 9, 1}, {5, 5, 9, 9, 1}, {3, 2, 9, 9, 1}, {5, 0, 9, 9, 1}, {6, 7, 9, 9, 1},
            {MAX, MIN, 9, 9, 1}, {0, -1, 9, 9, 1},
            {0, 5, 10, 9, 1}, {0, 5, 10, 10, 1}, {0, 5, 9, 5, 1}, {0, 5, 4, 0, 1}, {0, 5, 8, 9, 1},
            {0, 5, 2, -1, 1}, {0, 5, -1, -1, 1}, {0, 5, MAX, MAX, 1}, {0, 5, MIN, MIN, 1},
            {0, 5, MAX, MIN, 1}, {0, 5, MIN, MAX, 1}, {0, 5, 9, MIN, 1}, {0, 5, MAX, 9, 1},
            {0, 5, 9, 9, 0}, {0, 5, 9, 9, 21}, {0, 5, 9, 9, -1}, {0, 5, 9, 9, MIN}, {0, 5, 9, 9, MAX},
        };
        for (int[] b : bad) {
            String call = "2: add(" + b[0] + ", " + b[1] + ", " + b[2] + ", " + b[3] + ", " + b[4] + ")";
            due(call, x.add(b[0], b[1], b[2], b[3], b[4]), -1);
        }
        due("2: nothing longer", x.slowest(), 11);
        due("2: nothing faster", x.fastest(), 6);
        due("2: nothing dearer", x.cost(6), 29);
        due("2: still two jobs", x.add(0, 1, 1, 1, 1), 3);
    }

    private static void promise3Drop() {
        CrashPlanner x = new CrashPlanner();
        x.add(0, 5, 3, 3, 11);
        x.add(0, 2, 5, 3, 12);
        x.add(2, 5, 6, 3, 13);
        x.add(1, 4, 9, 9, 14);
        due("3: drop(-1)", x.drop(-1), -1);
        due("3: drop(MIN)", x.drop(MIN), -1);
        due("3: drop(4)", x.drop(4), -1);
        due("3: drop(MAX)", x.drop(MAX), -1);
        due("3: slowest before", x.slowest(), 11);
        due("3: drop the first", x.drop(0), 3);
        due("3: slowest is the same", x.slowest(), 11);
        due("3: job 0 was job 1", x.price(0, 12), 12);
        due("3: job 1 was job 2", x.price(1, 13), 13);
        due("3: job 2 was job 3", x.price(2, 14), 14);
        due("3: no job 3", x.price(3, 14), -1);
        due("3: drop in the middle", x.drop(1), 2);
        due("3: no way is left", x.slowest(), 0);
        due("3: no way costs nothing", x.cost(0), 0);
        due("3: job 0 stayed", x.price(0, 12), 12);
        due("3: job 1 was the last", x.price(1, 14), 14);
        due("3: drop the last", x.drop(1), 1);
        due("3: drop(1) once more", x.drop(1), -1);
        due("3: drop the only one", x.drop(0), 0);
        due("3: drop of none", x.drop(0), -1);
    }

    /** Every part of a job moves with it, and a full object can drop its first. */
    private static void promise3DropMovesWhole() {
        CrashPlanner x = new CrashPlanner();
        for (int count = 0; count < 5; count++) {
            x.add(1, 2, 9, 9, 1);
        }
        x.add(0, 3, 8, 6, 5);
        x.add(3, 5, 7, 4, 2);
        due("3: curve before", x.cost(10), 16);
        for (int left = 6; left >= 2; left--) {
            due("3: drop(0) to " + left, x.drop(0), left);
            due("3: slowest with " + left, x.slowest(), 15);
            due("3: fastest with " + left, x.fastest(), 10);
            due("3: cost(12) with " + left, x.cost(12), 6);
            due("3: cost(10) with " + left, x.cost(10), 16);
        }
    }

    /** Answers asked for before a drop are not given again after it. */
    private static void promise3DropChangesCurve() {
        CrashPlanner x = twoInARow();
        x.add(0, 5, 9, 8, 3);
        due("3: cost(8) with three", x.cost(8), 18);
        due("3: fastest with three", x.fastest(), 8);
        due("3: drop the one beside", x.drop(2), 2);
        due("3: cost(8) with two", x.cost(8), 15);
        due("3: fastest with two", x.fastest(), 6);
        due("3: within(15) with two", x.within(15), 8);
    }

    private static void promise4Price() {
        CrashPlanner x = twoInARow();
        due("4: curve before", x.cost(10), 4);
        due("4: price(0, 20)", x.price(0, 20), 4);
        due("4: the curve follows", x.cost(10), 7);
        due("4: price(0, 1)", x.price(0, 1), 20);
        due("4: the curve follows again", x.cost(10), 1);
        due("4: the same price", x.price(0, 1), 1);
        due("4: the other job", x.price(1, 8), 7);
        int[][] bad = {
            {-1, 5}, {MIN, 5}, {2, 5}, {7, 5}, {MAX, 5}, {0, 0}, {0, 21}, {0, -1}, {0, MIN}, {0, MAX}, {2, 0},
        };
        for (int[] b : bad) {
            due("4: price(" + b[0] + ", " + b[1] + ")", x.price(b[0], b[1]), -1);
        }
        due("4: nothing changed for 0", x.price(0, 2), 1);
        due("4: nothing changed for 1", x.price(1, 2), 8);
        due("4: times stay", x.slowest(), 11);
        due("4: fastest stays", x.fastest(), 6);
    }

    private static void promise5Slowest() {
        due("5: two in a row", twoInARow().slowest(), 11);
        due("5: the longest way", longestWay().slowest(), 45);
        CrashPlanner x = new CrashPlanner();
        x.add(4, 5, 2, 2, 1);
        due("5: not from the beginning", x.slowest(), 0);
        x.add(0, 3, 9, 9, 1);
        due("5: a gap", x.slowest(), 0);
        x.add(0, 4, 1, 1, 1);
        due("5: a way, added back to front", x.slowest(), 3);
        x.add(3, 4, 0, 0, 1);
        due("5: a job of no time joins", x.slowest(), 11);
        x.add(1, 5, 9, 9, 1);
        due("5: a job that nothing leads to", x.slowest(), 11);
        x.cost(0);
        due("5: the same after the curve is drawn", x.slowest(), 11);
    }

    private static void promise6Fastest() {
        due("6: two in a row", twoInARow().fastest(), 6);
        due("6: the longest way", longestWay().fastest(), 30);
        CrashPlanner x = new CrashPlanner();
        x.add(0, 5, 3, 0, 9);
        due("6: down to 0", x.fastest(), 0);
        x.add(0, 5, 7, 5, 9);
        due("6: side by side", x.fastest(), 5);
        x.add(0, 1, 9, 9, 9);
        due("6: a job that leads nowhere", x.fastest(), 5);
        CrashPlanner stiff = new CrashPlanner();
        for (int event = 0; event < 5; event++) {
            stiff.add(event, event + 1, 9, 9, 1);
        }
        due("6: nothing to save", stiff.fastest(), 45);
    }

    private static void promise7Cost() {
        CrashPlanner x = twoInARow();
        int[] curve = {-1, -1, -1, -1, -1, -1, 29, 22, 15, 8, 4, 0, 0};
        for (int deadline = 0; deadline < curve.length; deadline++) {
            due("7: cost(" + deadline + ")", x.cost(deadline), curve[deadline]);
        }
        due("7: cost(45)", x.cost(45), 0);
        due("7: cost(46)", x.cost(46), 0);
        due("7: cost(MAX)", x.cost(MAX), 0);
        due("7: cost(-1)", x.cost(-1), -1);
        due("7: cost(MIN)", x.cost(MIN), -1);
        CrashPlanner all = longestWay();
        due("7: longest way, cost(29)", all.cost(29), -1);
        due("7: longest way, cost(30)", all.cost(30), 300);
        due("7: longest way, cost(44)", all.cost(44), 20);
        due("7: longest way, cost(45)", all.cost(45), 0);
    }

    /** Where two ways share a job, a dear shared job may beat two cheap ones, and be given back. */
    private static void promise7CostOfWays() {
        CrashPlanner x = new CrashPlanner();
        x.add(0, 1, 4, 3, 9);
        x.add(1, 5, 4, 2, 5);
        x.add(1, 5, 4, 2, 6);
        due("7: one for both", x.cost(7), 9);
        due("7: then each", x.cost(6), 20);
        due("7: all", x.cost(5), 31);
        CrashPlanner seven = new CrashPlanner();
        for (int count = 0; count < 7; count++) {
            seven.add(0, 5, 9, 6, 20);
        }
        due("7: the dearest plan", seven.cost(6), 420);
        due("7: one day of seven jobs", seven.cost(8), 140);
        // The job across saves 2 days for a deadline of 8, 1 for 7 and none for 6.
        CrashPlanner bridge = new CrashPlanner();
        bridge.add(0, 1, 4, 1, 5);
        bridge.add(1, 5, 4, 1, 5);
        bridge.add(0, 2, 4, 1, 5);
        bridge.add(2, 5, 4, 1, 5);
        bridge.add(1, 2, 2, 0, 1);
        due("7: bridge, cost(8)", bridge.cost(8), 2);
        due("7: bridge, cost(7)", bridge.cost(7), 11);
        due("7: bridge, cost(6)", bridge.cost(6), 20);
        due("7: bridge, cost(2)", bridge.cost(2), 62);
    }

    private static void promise8Step() {
        CrashPlanner x = twoInARow();
        int[] steps = {-1, -1, -1, -1, -1, -1, 7, 7, 7, 4, 4, 0, 0};
        for (int deadline = 0; deadline < steps.length; deadline++) {
            due("8: step(" + deadline + ")", x.step(deadline), steps[deadline]);
        }
        due("8: step(MAX)", x.step(MAX), 0);
        due("8: step(MAX - 1)", x.step(MAX - 1), 0);
        due("8: step(-1)", x.step(-1), -1);
        due("8: step(MIN)", x.step(MIN), -1);
        CrashPlanner all = longestWay();
        due("8: longest way, step(29)", all.step(29), -1);
        due("8: longest way, step(30)", all.step(30), 20);
        due("8: longest way, step(44)", all.step(44), 20);
        due("8: longest way, step(45)", all.step(45), 0);
        due("8: longest way, step(46)", all.step(46), 0);
    }

    private static void promise9Within() {
        CrashPlanner x = twoInARow();
        int[][] rows = {
            {0, 11}, {3, 11}, {4, 10}, {7, 10}, {8, 9}, {14, 9}, {15, 8}, {22, 7}, {28, 7}, {29, 6}, {30, 6},
            {MAX, 6}, {-1, -1}, {MIN, -1},
        };
        for (int[] row : rows) {
            due("9: within(" + row[0] + ")", x.within(row[0]), row[1]);
        }
        CrashPlanner all = longestWay();
        due("9: longest way, within(0)", all.within(0), 45);
        due("9: longest way, within(19)", all.within(19), 45);
        due("9: longest way, within(20)", all.within(20), 44);
        due("9: longest way, within(300)", all.within(300), 30);
    }

    private static void promise10Total() {
        CrashPlanner x = twoInARow();
        int[][] rows = {
            {0, 0}, {1, 11}, {4, 44}, {5, 53}, {7, 71}, {8, 77}, {200, 1229}, {-1, -1}, {201, -1}, {MIN, -1}, {MAX, -1},
        };
        for (int[] row : rows) {
            due("10: total(" + row[0] + ")", x.total(row[0]), row[1]);
        }
        CrashPlanner all = longestWay();
        due("10: longest way, total(0)", all.total(0), 0);
        due("10: longest way, total(19)", all.total(19), 855);
        due("10: longest way, total(20)", all.total(20), 900);
        due("10: longest way, total(21)", all.total(21), 930);
        due("10: longest way, total(200)", all.total(200), 6300);
        CrashPlanner stiff = new CrashPlanner();
        for (int event = 0; event < 5; event++) {
            stiff.add(event, event + 1, 9, 9, 1);
        }
        due("10: nothing to save, total(200)", stiff.total(200), 9000);
    }

    public static void main(String[] args) {
        promise1NewObject();
        promise2AddAnswers();
        promise2AddEdges();
        promise2AddWrong();
        promise3Drop();
        promise3DropMovesWhole();
        promise3DropChangesCurve();
        promise4Price();
        promise5Slowest();
        promise6Fastest();
        promise7Cost();
        promise7CostOfWays();
        promise8Step();
        promise9Within();
        promise10Total();
        System.out.println(wrong == 0 ? "all answers are as due" : wrong + " answers are not as due");
        if (wrong != 0) {
            System.exit(1);
        }
    }
}
