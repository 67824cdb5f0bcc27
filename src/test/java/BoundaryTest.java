import java.lang.annotation.Retention;
import java.lang.annotation.RetentionPolicy;
import java.lang.reflect.InvocationTargetException;
import java.lang.reflect.Method;
import java.util.Arrays;
import java.util.Comparator;

/**
 * One test for each boundary case that a sentence of the document names. A test bears the words
 * of that sentence, and a name that begins with its section: terms, or p and the promise's number.
 */
public final class BoundaryTest {
    @Retention(RetentionPolicy.RUNTIME)
    private @interface Says {
        String value();
    }

    private static final String LIFE = "An object is used for at most 512 calls after it has been made";
    private static final String BEGINNING_AND_END = "EVENTS are 0 to 5; 0 is the BEGINNING, 5 the END.";
    private static final String SEVEN = "At most 7 JOBS are held";
    private static final String NUMBERED = "numbered from 0 in the order in which they were added";
    private static final String TIME = "A PLAN gives each job a TIME, an int from its fast to its slow time.";
    private static final String SUM = "Its COST is the sum, over all jobs, of price times (slow time less time).";
    private static final String LENGTH = "the greatest sum of times along a way of jobs from the beginning to the end";
    private static final String JOINED = "each job beginning at the event at which the one before it ended";
    private static final String NO_WAY = "if there is no such way, the length is 0";
    private static final String CURVE = "for each deadline t (an int, 0 or more) the least cost of a plan whose length is at most t";
    private static final String NO_PLAN = "or nothing if there is no such plan";
    private static final String NO_JOB = "No job.";
    private static final String ADD_COUNTS = "Adds a job. Answers the number of jobs then";
    private static final String ADD_FULL = "-1, and changes nothing, if there are 7";
    private static final String ADD_EVENTS = "-1, and changes nothing, if .. not 0 <= from < to <= 5";
    private static final String ADD_TIMES = "-1, and changes nothing, if .. fast or slow is not as said";
    private static final String ADD_PRICE = "-1, and changes nothing, if .. price is not from 1 to 20";
    private static final String DROP_MOVES = "Takes the job with the number out; the ones behind it move one place back.";
    private static final String DROP_COUNTS = "Answers the number of jobs then";
    private static final String DROP_NONE = "-1 if there is none";
    private static final String PRICE_BEFORE = "The job's price becomes price. Answers the price before";
    private static final String PRICE_NO_JOB = "-1, and changes nothing, if there is no such job";
    private static final String PRICE_WRONG = "-1, and changes nothing, if .. price is not from 1 to 20";
    private static final String SLOWEST = "The length of the plan that gives every job its slow time.";
    private static final String FASTEST = "The least length of a plan.";
    private static final String COST = "The cost that the curve gives for the deadline";
    private static final String COST_NOTHING = "-1 if it gives nothing";
    private static final String COST_BELOW = "-1 if .. deadline is below 0";
    private static final String STEP = "How much less the curve gives for deadline + 1 than for deadline";
    private static final String STEP_NOTHING = "-1 if it gives nothing for deadline";
    private static final String STEP_BELOW = "-1 if .. deadline is below 0";
    private static final String WITHIN = "The least deadline for which the curve gives at most budget";
    private static final String WITHIN_BELOW = "-1 if budget is below 0";
    private static final String TOTAL = "The least of cost + perDay * deadline over all deadlines for which the curve gives something";
    private static final String TOTAL_RANGE = "for perDay from 0 to 200; -1 if perDay is out of its range";

    private static final int MIN = Integer.MIN_VALUE;
    private static final int MAX = Integer.MAX_VALUE;

    private static String running = "";
    private static int wrong = 0;

    private static void due(String what, int got, int want) {
        if (got != want) {
            wrong++;
            System.out.println(running + ": " + what + " answered " + got + ", due is " + want);
        }
    }

    // ---- the projects that the tests begin with

    private static CrashPlanner oneJob(int slow, int fast, int price) {
        CrashPlanner x = new CrashPlanner();
        x.add(0, 5, slow, fast, price);
        return x;
    }

    /** 5 to 3 days at 4 each, then 6 to 3 days at 7 each: from 6 days on, 29 22 15 8 4 0. */
    private static CrashPlanner twoInARow() {
        CrashPlanner x = new CrashPlanner();
        x.add(0, 2, 5, 3, 4);
        x.add(2, 5, 6, 3, 7);
        return x;
    }

    private static CrashPlanner fiveInARow(int slow, int fast, int price) {
        CrashPlanner x = new CrashPlanner();
        for (int event = 0; event < 5; event++) {
            x.add(event, event + 1, slow, fast, price);
        }
        return x;
    }

    /** Seven jobs of 9 to 6 days from the beginning to the end, with the prices 1 to 7. */
    private static CrashPlanner full() {
        CrashPlanner x = new CrashPlanner();
        for (int number = 0; number < 7; number++) {
            x.add(0, 5, 9, 6, number + 1);
        }
        return x;
    }

    private static void prices(CrashPlanner x, int... want) {
        for (int number = 0; number < want.length; number++) {
            due("price of job " + number, x.price(number, want[number]), want[number]);
        }
        due("price of a job behind the last", x.price(want.length, 1), -1);
    }

    private static void stillTwoInARow(CrashPlanner x) {
        due("slowest() then", x.slowest(), 11);
        due("fastest() then", x.fastest(), 6);
        int[] curve = {-1, 29, 22, 15, 8, 4, 0};
        for (int at = 0; at < curve.length; at++) {
            due("cost(" + (5 + at) + ") then", x.cost(5 + at), curve[at]);
        }
        prices(x, 4, 7);
        due("add(0, 1, 0, 0, 1) then", x.add(0, 1, 0, 0, 1), 3);
    }

    private static void stillFull(CrashPlanner x) {
        due("slowest() then", x.slowest(), 9);
        due("fastest() then", x.fastest(), 6);
        due("cost(8) then", x.cost(8), 28);
        due("cost(6) then", x.cost(6), 84);
        prices(x, 1, 2, 3, 4, 5, 6, 7);
    }

    /** Refused before and after the curve has been asked for, and nothing changes. */
    private static void refusesAdd(int from, int to, int slow, int fast, int price) {
        String call = "add(" + from + ", " + to + ", " + slow + ", " + fast + ", " + price + ")";
        CrashPlanner x = twoInARow();
        due(call, x.add(from, to, slow, fast, price), -1);
        x.cost(8);
        due(call + " again", x.add(from, to, slow, fast, price), -1);
        stillTwoInARow(x);
        due(call + " as the first", new CrashPlanner().add(from, to, slow, fast, price), -1);
    }

    private static void takesAdd(int from, int to, int slow, int fast, int price) {
        String call = "add(" + from + ", " + to + ", " + slow + ", " + fast + ", " + price + ")";
        due(call, twoInARow().add(from, to, slow, fast, price), 3);
        due(call + " as the first", new CrashPlanner().add(from, to, slow, fast, price), 1);
    }

    private static void refusesDrop(int number) {
        CrashPlanner x = twoInARow();
        due("drop(" + number + ")", x.drop(number), -1);
        stillTwoInARow(x);
    }

    private static void refusesPrice(int number, int price) {
        CrashPlanner x = twoInARow();
        x.cost(8);
        due("price(" + number + ", " + price + ")", x.price(number, price), -1);
        stillTwoInARow(x);
    }

    // ---- What it is

    @Says(LIFE)
    private static void lifeTo512thCall() {
        CrashPlanner x = full();
        int calls = 7;
        int before = 1;
        while (calls < 510) {
            int price = 1 + calls % 20;
            due("price, call " + (calls + 1), x.price(0, price), before);
            due("cost, call " + (calls + 2), x.cost(6), 81 + 3 * price);
            before = price;
            calls += 2;
        }
        due("step, call 512", x.step(6), 27 + before);
    }

    @Says(LIFE)
    private static void lifeOfAddsAndDrops() {
        CrashPlanner x = full();
        for (int calls = 7; calls < 511; calls += 2) {
            due("drop, call " + (calls + 1), x.drop(0), 6);
            due("add, call " + (calls + 2), x.add(0, 5, 9, 6, 1), 7);
        }
        due("cost, call 512", x.cost(6), 21);
    }

    // ---- Terms

    @Says(BEGINNING_AND_END)
    private static void termsWayBeginsAtEvent0() {
        CrashPlanner x = oneJob(4, 4, 1);
        x.add(1, 5, 9, 9, 1);
        due("slowest()", x.slowest(), 4);
    }

    @Says(BEGINNING_AND_END)
    private static void termsWayEndsAtEvent5() {
        CrashPlanner x = oneJob(4, 4, 1);
        x.add(0, 4, 9, 9, 1);
        due("slowest()", x.slowest(), 4);
    }

    @Says(SEVEN)
    private static void termsSevenJobsAllCount() {
        CrashPlanner x = new CrashPlanner();
        for (int job = 0; job < 7; job++) {
            x.add(0, 5, 9, 6, 20);
        }
        due("cost(8)", x.cost(8), 140);
        due("cost(6)", x.cost(6), 420);
    }

    @Says(NUMBERED)
    private static void termsFirstIsNumber0() {
        due("price(0, 9)", full().price(0, 9), 1);
    }

    @Says(NUMBERED)
    private static void termsSeventhIsNumber6() {
        due("price(6, 9)", full().price(6, 9), 7);
    }

    @Says(TIME)
    private static void termsTimeFromFastToSlow() {
        CrashPlanner x = oneJob(9, 6, 5);
        due("cost(5), below the fast time", x.cost(5), -1);
        due("cost(6), the fast time", x.cost(6), 15);
        due("cost(7)", x.cost(7), 10);
        due("cost(8)", x.cost(8), 5);
        due("cost(9), the slow time", x.cost(9), 0);
        due("cost(10), above the slow time", x.cost(10), 0);
    }

    @Says(TIME)
    private static void termsOnlyOneTime() {
        CrashPlanner x = oneJob(4, 4, 20);
        due("cost(3)", x.cost(3), -1);
        due("cost(4)", x.cost(4), 0);
        due("fastest()", x.fastest(), 4);
    }

    @Says(TIME)
    private static void termsTimeOfNothing() {
        CrashPlanner x = oneJob(3, 0, 2);
        due("fastest()", x.fastest(), 0);
        due("cost(0)", x.cost(0), 6);
    }

    @Says(SUM)
    private static void termsJobOnNoWayIsNotPaidFor() {
        CrashPlanner x = oneJob(3, 2, 4);
        x.add(0, 1, 9, 6, 1);
        x.add(4, 5, 9, 6, 1);
        due("cost(2)", x.cost(2), 4);
        due("cost(3)", x.cost(3), 0);
    }

    @Says(SUM)
    private static void termsJobBesideIsPaidForOnlyAsFarAsNeeded() {
        CrashPlanner x = oneJob(9, 6, 4);
        x.add(0, 5, 8, 6, 5);
        due("cost(8)", x.cost(8), 4);
        due("cost(7)", x.cost(7), 13);
        due("cost(6)", x.cost(6), 22);
    }

    @Says(LENGTH)
    private static void termsWayOfOneJob() {
        due("slowest()", oneJob(9, 9, 1).slowest(), 9);
    }

    @Says(LENGTH)
    private static void termsWayOfFiveJobs() {
        due("slowest()", fiveInARow(9, 9, 1).slowest(), 45);
    }

    @Says(LENGTH)
    private static void termsWayOfFiveJobsAddedFromTheEnd() {
        CrashPlanner x = new CrashPlanner();
        for (int event = 4; event >= 0; event--) {
            x.add(event, event + 1, 9, 7, 3);
        }
        due("slowest()", x.slowest(), 45);
        due("fastest()", x.fastest(), 35);
        due("cost(35)", x.cost(35), 30);
    }

    @Says(LENGTH)
    private static void termsGreatestOfWaysBetweenSameEvents() {
        CrashPlanner x = oneJob(4, 4, 1);
        x.add(0, 5, 6, 6, 1);
        x.add(0, 5, 5, 5, 1);
        due("slowest()", x.slowest(), 6);
    }

    @Says(LENGTH)
    private static void termsManyShortJobsBeatOneLong() {
        CrashPlanner x = fiveInARow(2, 2, 1);
        x.add(0, 5, 9, 9, 1);
        due("slowest()", x.slowest(), 10);
    }

    @Says(LENGTH)
    private static void termsWayOfNoTime() {
        CrashPlanner x = fiveInARow(0, 0, 20);
        due("slowest()", x.slowest(), 0);
        due("fastest()", x.fastest(), 0);
        due("cost(0)", x.cost(0), 0);
    }

    @Says(JOINED)
    private static void termsJobsApartAreNoWay() {
        CrashPlanner x = new CrashPlanner();
        x.add(0, 2, 5, 5, 1);
        x.add(3, 5, 4, 4, 1);
        due("slowest() with a gap", x.slowest(), 0);
        x.add(2, 3, 0, 0, 1);
        due("slowest() with the gap closed", x.slowest(), 9);
    }

    @Says(JOINED)
    private static void termsJobsThatOverlapAreNoWay() {
        CrashPlanner x = new CrashPlanner();
        x.add(0, 3, 5, 5, 1);
        x.add(2, 5, 4, 4, 1);
        due("slowest()", x.slowest(), 0);
    }

    @Says(NO_WAY)
    private static void termsNoWay() {
        CrashPlanner x = new CrashPlanner();
        x.add(0, 4, 9, 6, 1);
        x.add(1, 5, 9, 6, 1);
        due("slowest()", x.slowest(), 0);
        due("fastest()", x.fastest(), 0);
        due("cost(0)", x.cost(0), 0);
        due("step(0)", x.step(0), 0);
        due("within(0)", x.within(0), 0);
        due("total(200)", x.total(200), 0);
    }

    @Says(CURVE)
    private static void termsLengthOfExactlyT() {
        CrashPlanner x = twoInARow();
        due("cost(slowest())", x.cost(11), 0);
        due("cost of one below", x.cost(10), 4);
    }

    @Says(CURVE)
    private static void termsLeastAndGreatestDeadline() {
        CrashPlanner x = oneJob(2, 0, 20);
        due("cost(0)", x.cost(0), 40);
        due("cost(MAX)", x.cost(MAX), 0);
    }

    @Says(NO_PLAN)
    private static void termsNoPlan() {
        CrashPlanner x = twoInARow();
        due("cost(6)", x.cost(6), 29);
        due("cost(5)", x.cost(5), -1);
        due("cost(0)", x.cost(0), -1);
    }

    // ---- Promise 1: a new object

    @Says(NO_JOB)
    private static void p1NothingToTakeOut() {
        due("drop(0)", new CrashPlanner().drop(0), -1);
    }

    @Says(NO_JOB)
    private static void p1NothingToPrice() {
        due("price(0, 1)", new CrashPlanner().price(0, 1), -1);
    }

    @Says(NO_JOB)
    private static void p1LengthsAre0() {
        due("slowest()", new CrashPlanner().slowest(), 0);
        due("fastest()", new CrashPlanner().fastest(), 0);
    }

    @Says(NO_JOB)
    private static void p1CurveIs0() {
        for (int deadline : new int[] {0, 1, 45, 46, MAX}) {
            due("cost(" + deadline + ")", new CrashPlanner().cost(deadline), 0);
            due("step(" + deadline + ")", new CrashPlanner().step(deadline), 0);
        }
        due("within(0)", new CrashPlanner().within(0), 0);
        due("within(MAX)", new CrashPlanner().within(MAX), 0);
        due("total(0)", new CrashPlanner().total(0), 0);
        due("total(200)", new CrashPlanner().total(200), 0);
    }

    @Says(NO_JOB)
    private static void p1WrongArgumentsAreRefused() {
        due("cost(-1)", new CrashPlanner().cost(-1), -1);
        due("step(-1)", new CrashPlanner().step(-1), -1);
        due("within(-1)", new CrashPlanner().within(-1), -1);
        due("total(-1)", new CrashPlanner().total(-1), -1);
        due("total(201)", new CrashPlanner().total(201), -1);
    }

    @Says(NO_JOB)
    private static void p1RoomForSeven() {
        CrashPlanner x = new CrashPlanner();
        for (int count = 1; count <= 7; count++) {
            due("add", x.add(0, 5, 1, 1, 1), count);
        }
    }

    @Says(NO_JOB)
    private static void p1BesideAFullOne() {
        CrashPlanner other = full();
        CrashPlanner x = new CrashPlanner();
        due("slowest()", x.slowest(), 0);
        due("drop(0)", x.drop(0), -1);
        due("add", x.add(0, 5, 1, 1, 1), 1);
        stillFull(other);
    }

    // ---- Promise 2: add

    @Says(ADD_COUNTS)
    private static void p2CountsFrom1To7() {
        CrashPlanner x = new CrashPlanner();
        for (int count = 1; count <= 7; count++) {
            due("add", x.add(0, 5, 9, 6, count), count);
        }
        stillFull(x);
    }

    @Says(ADD_COUNTS)
    private static void p2RefusedAddIsNotCounted() {
        CrashPlanner x = new CrashPlanner();
        due("first add", x.add(0, 5, 1, 1, 1), 1);
        due("refused add", x.add(0, 5, 1, 1, 0), -1);
        due("second add", x.add(0, 5, 1, 1, 1), 2);
    }

    @Says(ADD_COUNTS)
    private static void p2ChangesTheAnswersGivenBefore() {
        CrashPlanner x = oneJob(4, 2, 3);
        due("cost(2) before", x.cost(2), 6);
        due("total(9) before", x.total(9), 24);
        x.add(0, 5, 5, 3, 2);
        due("slowest()", x.slowest(), 5);
        due("fastest()", x.fastest(), 3);
        due("cost(2)", x.cost(2), -1);
        due("cost(3)", x.cost(3), 7);
        due("total(9)", x.total(9), 34);
    }

    @Says(ADD_COUNTS)
    private static void p2SameJobTwice() {
        CrashPlanner x = oneJob(4, 2, 3);
        due("add of the same", x.add(0, 5, 4, 2, 3), 2);
        due("cost(3)", x.cost(3), 6);
    }

    @Says(ADD_FULL)
    private static void p2EighthIsRefused() {
        CrashPlanner x = full();
        due("add of an eighth", x.add(0, 5, 9, 9, 20), -1);
        stillFull(x);
        due("add of an eighth again", x.add(0, 1, 0, 0, 1), -1);
        stillFull(x);
    }

    @Says(ADD_FULL)
    private static void p2WrongEighthIsRefused() {
        CrashPlanner x = full();
        due("add of a wrong eighth", x.add(-1, 6, 10, -1, 21), -1);
        stillFull(x);
    }

    @Says(ADD_FULL)
    private static void p2RoomAgainAfterADrop() {
        CrashPlanner x = full();
        x.drop(6);
        due("add", x.add(0, 5, 9, 6, 7), 7);
        due("add of an eighth", x.add(0, 5, 9, 9, 20), -1);
        stillFull(x);
    }

    @Says(ADD_EVENTS)
    private static void p2FromLeast() {
        takesAdd(0, 3, 2, 1, 5);
    }

    @Says(ADD_EVENTS)
    private static void p2FromTooSmall() {
        refusesAdd(-1, 3, 2, 1, 5);
        refusesAdd(MIN, 3, 2, 1, 5);
    }

    @Says(ADD_EVENTS)
    private static void p2FromGreatest() {
        takesAdd(4, 5, 2, 1, 5);
    }

    @Says(ADD_EVENTS)
    private static void p2FromTooLarge() {
        refusesAdd(5, 5, 2, 1, 5);
        refusesAdd(5, 6, 2, 1, 5);
        refusesAdd(MAX, 5, 2, 1, 5);
    }

    @Says(ADD_EVENTS)
    private static void p2ToLeast() {
        takesAdd(0, 1, 2, 1, 5);
    }

    @Says(ADD_EVENTS)
    private static void p2ToTooSmall() {
        refusesAdd(0, 0, 2, 1, 5);
        refusesAdd(0, -1, 2, 1, 5);
        refusesAdd(0, MIN, 2, 1, 5);
    }

    @Says(ADD_EVENTS)
    private static void p2ToGreatest() {
        takesAdd(2, 5, 2, 1, 5);
    }

    @Says(ADD_EVENTS)
    private static void p2ToTooLarge() {
        refusesAdd(2, 6, 2, 1, 5);
        refusesAdd(2, MAX, 2, 1, 5);
    }

    @Says(ADD_EVENTS)
    private static void p2ToOneAboveFrom() {
        takesAdd(2, 3, 2, 1, 5);
    }

    @Says(ADD_EVENTS)
    private static void p2ToSameAsFrom() {
        refusesAdd(2, 2, 2, 1, 5);
    }

    @Says(ADD_EVENTS)
    private static void p2ToBelowFrom() {
        refusesAdd(3, 2, 2, 1, 5);
        refusesAdd(5, 0, 2, 1, 5);
    }

    @Says(ADD_EVENTS)
    private static void p2EventsBothOutside() {
        refusesAdd(-2, -1, 2, 1, 5);
        refusesAdd(6, 7, 2, 1, 5);
        refusesAdd(MIN, MAX, 2, 1, 5);
        refusesAdd(MAX, MIN, 2, 1, 5);
    }

    @Says(ADD_EVENTS)
    private static void p2EventsThatWouldWrapIntoRange() {
        refusesAdd(256, 261, 2, 1, 5);
        refusesAdd(0, 261, 2, 1, 5);
        refusesAdd(65536, 65541, 2, 1, 5);
    }

    @Says(ADD_EVENTS)
    private static void p2FifteenPairsOfEvents() {
        int taken = 0;
        for (int from = -2; from <= 7; from++) {
            for (int to = -2; to <= 7; to++) {
                taken += new CrashPlanner().add(from, to, 2, 1, 5) == 1 ? 1 : 0;
            }
        }
        due("the count of pairs taken", taken, 15);
    }

    @Says(ADD_TIMES)
    private static void p2FastLeast() {
        takesAdd(0, 5, 2, 0, 5);
    }

    @Says(ADD_TIMES)
    private static void p2FastTooSmall() {
        refusesAdd(0, 5, 2, -1, 5);
        refusesAdd(0, 5, 2, MIN, 5);
    }

    @Says(ADD_TIMES)
    private static void p2FastSameAsSlow() {
        takesAdd(0, 5, 5, 5, 5);
    }

    @Says(ADD_TIMES)
    private static void p2FastAboveSlow() {
        refusesAdd(0, 5, 5, 6, 5);
        refusesAdd(0, 5, 0, 1, 5);
        refusesAdd(0, 5, 5, MAX, 5);
    }

    @Says(ADD_TIMES)
    private static void p2SlowLeast() {
        takesAdd(0, 5, 0, 0, 5);
    }

    @Says(ADD_TIMES)
    private static void p2SlowTooSmall() {
        refusesAdd(0, 5, -1, 0, 5);
        refusesAdd(0, 5, -1, -1, 5);
        refusesAdd(0, 5, MIN, 0, 5);
        refusesAdd(0, 5, MIN, MIN, 5);
    }

    @Says(ADD_TIMES)
    private static void p2SlowGreatest() {
        takesAdd(0, 5, 9, 8, 5);
        takesAdd(0, 5, 9, 9, 5);
    }

    @Says(ADD_TIMES)
    private static void p2SlowTooLarge() {
        refusesAdd(0, 5, 10, 8, 5);
        refusesAdd(0, 5, 10, 10, 5);
        refusesAdd(0, 5, MAX, 9, 5);
        refusesAdd(0, 5, MAX, MAX, 5);
    }

    @Says(ADD_TIMES)
    private static void p2SlowLessFastGreatest() {
        takesAdd(0, 5, 3, 0, 5);
        takesAdd(0, 5, 9, 6, 5);
    }

    @Says(ADD_TIMES)
    private static void p2SlowLessFastTooLarge() {
        refusesAdd(0, 5, 4, 0, 5);
        refusesAdd(0, 5, 9, 5, 5);
        refusesAdd(0, 5, 9, 0, 5);
    }

    @Says(ADD_TIMES)
    private static void p2SlowLessFastWrapsAround() {
        refusesAdd(0, 5, 9, MIN, 5);
        refusesAdd(0, 5, MAX, MIN, 5);
        refusesAdd(0, 5, MIN, MAX, 5);
        refusesAdd(0, 5, MIN + 2, MAX, 5);
        refusesAdd(0, 5, MIN + 2, 9, 5);
    }

    @Says(ADD_TIMES)
    private static void p2TimesThatWouldWrapIntoRange() {
        refusesAdd(0, 5, 261, 260, 5);
        refusesAdd(0, 5, 5, 260 - 512, 5);
        refusesAdd(0, 5, 65541, 65540, 5);
    }

    @Says(ADD_TIMES)
    private static void p2ThirtyFourPairsOfTimes() {
        int taken = 0;
        for (int slow = -5; slow <= 14; slow++) {
            for (int fast = -5; fast <= 14; fast++) {
                taken += new CrashPlanner().add(0, 5, slow, fast, 5) == 1 ? 1 : 0;
            }
        }
        due("the count of pairs taken", taken, 34);
    }

    @Says(ADD_PRICE)
    private static void p2PriceLeast() {
        takesAdd(0, 5, 2, 1, 1);
        due("cost(1)", oneJob(2, 1, 1).cost(1), 1);
    }

    @Says(ADD_PRICE)
    private static void p2PriceTooSmall() {
        refusesAdd(0, 5, 2, 1, 0);
        refusesAdd(0, 5, 2, 1, -1);
        refusesAdd(0, 5, 2, 1, MIN);
    }

    @Says(ADD_PRICE)
    private static void p2PriceGreatest() {
        takesAdd(0, 5, 2, 1, 20);
        due("cost(1)", oneJob(2, 1, 20).cost(1), 20);
    }

    @Says(ADD_PRICE)
    private static void p2PriceTooLarge() {
        refusesAdd(0, 5, 2, 1, 21);
        refusesAdd(0, 5, 2, 1, MAX);
    }

    @Says(ADD_PRICE)
    private static void p2PriceThatWouldWrapIntoRange() {
        refusesAdd(0, 5, 2, 1, 257);
        refusesAdd(0, 5, 2, 1, 65537);
    }

    @Says(ADD_PRICE)
    private static void p2PriceIsLookedAtWhereNothingCanBeSaved() {
        refusesAdd(0, 5, 2, 2, 0);
        refusesAdd(0, 5, 2, 2, 21);
    }

    @Says(ADD_PRICE)
    private static void p2TwentyPrices() {
        int taken = 0;
        for (int price = -30; price <= 50; price++) {
            taken += new CrashPlanner().add(0, 5, 2, 1, price) == 1 ? 1 : 0;
        }
        due("the count of prices taken", taken, 20);
    }

    // ---- Promise 3: drop

    @Says(DROP_MOVES)
    private static void p3FirstOfSeven() {
        CrashPlanner x = full();
        due("drop(0)", x.drop(0), 6);
        prices(x, 2, 3, 4, 5, 6, 7);
    }

    @Says(DROP_MOVES)
    private static void p3MiddleOfSeven() {
        CrashPlanner x = full();
        due("drop(3)", x.drop(3), 6);
        prices(x, 1, 2, 3, 5, 6, 7);
    }

    @Says(DROP_MOVES)
    private static void p3LastButOneOfSeven() {
        CrashPlanner x = full();
        due("drop(5)", x.drop(5), 6);
        prices(x, 1, 2, 3, 4, 5, 7);
    }

    @Says(DROP_MOVES)
    private static void p3LastOfSeven() {
        CrashPlanner x = full();
        due("drop(6)", x.drop(6), 6);
        prices(x, 1, 2, 3, 4, 5, 6);
    }

    @Says(DROP_MOVES)
    private static void p3EventsTimesAndPriceMove() {
        CrashPlanner x = new CrashPlanner();
        x.add(1, 4, 9, 9, 20);
        x.add(0, 2, 5, 3, 4);
        x.add(2, 5, 6, 3, 7);
        due("drop(0)", x.drop(0), 2);
        stillTwoInARow(x);
    }

    @Says(DROP_MOVES)
    private static void p3ChangesTheAnswersGivenBefore() {
        CrashPlanner x = twoInARow();
        x.add(0, 5, 9, 8, 3);
        due("cost(8) before", x.cost(8), 18);
        due("fastest() before", x.fastest(), 8);
        due("drop(2)", x.drop(2), 2);
        stillTwoInARow(x);
    }

    @Says(DROP_MOVES)
    private static void p3NextAddComesBehindTheLast() {
        CrashPlanner x = full();
        x.drop(2);
        due("add", x.add(0, 5, 9, 6, 20), 7);
        prices(x, 1, 2, 4, 5, 6, 7, 20);
    }

    @Says(DROP_COUNTS)
    private static void p3CountsFrom6To0() {
        CrashPlanner x = full();
        for (int left = 6; left >= 0; left--) {
            due("drop(0)", x.drop(0), left);
        }
        due("drop(0) of none", x.drop(0), -1);
    }

    @Says(DROP_COUNTS)
    private static void p3EmptyAgainIsLikeNew() {
        CrashPlanner x = oneJob(9, 6, 20);
        due("cost(6) before", x.cost(6), 60);
        due("drop(0)", x.drop(0), 0);
        due("slowest()", x.slowest(), 0);
        due("fastest()", x.fastest(), 0);
        due("cost(0)", x.cost(0), 0);
        due("price(0, 1)", x.price(0, 1), -1);
        due("add", x.add(0, 5, 2, 1, 3), 1);
        due("cost(1)", x.cost(1), 3);
    }

    @Says(DROP_NONE)
    private static void p3OfNoJobs() {
        CrashPlanner x = new CrashPlanner();
        due("drop(0)", x.drop(0), -1);
        due("add", x.add(0, 5, 1, 1, 1), 1);
    }

    @Says(DROP_NONE)
    private static void p3NumberTooSmall() {
        refusesDrop(-1);
        refusesDrop(MIN);
    }

    @Says(DROP_NONE)
    private static void p3NumberTooLarge() {
        refusesDrop(2);
        refusesDrop(6);
        refusesDrop(7);
        refusesDrop(MAX);
    }

    @Says(DROP_NONE)
    private static void p3NumberTooLargeForSeven() {
        CrashPlanner x = full();
        due("drop(7)", x.drop(7), -1);
        due("drop(-1)", x.drop(-1), -1);
        stillFull(x);
    }

    @Says(DROP_NONE)
    private static void p3NumberThatWouldWrapIntoRange() {
        refusesDrop(256);
        refusesDrop(65536);
    }

    @Says(DROP_NONE)
    private static void p3LastNumberIsGoneAfterwards() {
        CrashPlanner x = twoInARow();
        due("drop(1)", x.drop(1), 1);
        due("drop(1) again", x.drop(1), -1);
        due("price(0, 4)", x.price(0, 4), 4);
    }

    // ---- Promise 4: price

    @Says(PRICE_BEFORE)
    private static void p4LeastAndGreatestPrice() {
        CrashPlanner x = oneJob(9, 6, 5);
        due("price(0, 1)", x.price(0, 1), 5);
        due("cost(6) at 1", x.cost(6), 3);
        due("price(0, 20)", x.price(0, 20), 1);
        due("cost(6) at 20", x.cost(6), 60);
        due("price(0, 20) again", x.price(0, 20), 20);
    }

    @Says(PRICE_BEFORE)
    private static void p4FirstAndLastOfSeven() {
        CrashPlanner x = full();
        due("price(0, 11)", x.price(0, 11), 1);
        due("price(6, 17)", x.price(6, 17), 7);
        prices(x, 11, 2, 3, 4, 5, 6, 17);
    }

    @Says(PRICE_BEFORE)
    private static void p4SamePrice() {
        CrashPlanner x = twoInARow();
        due("price(0, 4)", x.price(0, 4), 4);
        stillTwoInARow(x);
    }

    @Says(PRICE_BEFORE)
    private static void p4ChangesTheAnswersGivenBefore() {
        CrashPlanner x = twoInARow();
        due("cost(10) before", x.cost(10), 4);
        due("price(0, 9)", x.price(0, 9), 4);
        due("cost(10)", x.cost(10), 7);
        due("cost(6)", x.cost(6), 39);
        due("slowest()", x.slowest(), 11);
        due("fastest()", x.fastest(), 6);
    }

    @Says(PRICE_BEFORE)
    private static void p4PriceOfAJobOnNoWay() {
        CrashPlanner x = oneJob(3, 2, 4);
        x.add(0, 1, 9, 6, 1);
        due("price(1, 20)", x.price(1, 20), 1);
        due("cost(2)", x.cost(2), 4);
    }

    @Says(PRICE_NO_JOB)
    private static void p4OfNoJobs() {
        CrashPlanner x = new CrashPlanner();
        due("price(0, 5)", x.price(0, 5), -1);
        due("add", x.add(0, 5, 2, 1, 7), 1);
        due("cost(1)", x.cost(1), 7);
    }

    @Says(PRICE_NO_JOB)
    private static void p4NumberTooSmall() {
        refusesPrice(-1, 5);
        refusesPrice(MIN, 5);
    }

    @Says(PRICE_NO_JOB)
    private static void p4NumberTooLarge() {
        refusesPrice(2, 5);
        refusesPrice(6, 5);
        refusesPrice(7, 5);
        refusesPrice(MAX, 5);
    }

    @Says(PRICE_NO_JOB)
    private static void p4NumberTooLargeForSeven() {
        CrashPlanner x = full();
        due("price(7, 5)", x.price(7, 5), -1);
        due("price(-1, 5)", x.price(-1, 5), -1);
        stillFull(x);
    }

    @Says(PRICE_NO_JOB)
    private static void p4NumberThatWouldWrapIntoRange() {
        refusesPrice(256, 5);
        refusesPrice(65536, 5);
    }

    @Says(PRICE_NO_JOB)
    private static void p4JobThatWasDropped() {
        CrashPlanner x = full();
        x.drop(6);
        due("price(6, 5)", x.price(6, 5), -1);
        due("add", x.add(0, 5, 9, 6, 7), 7);
        stillFull(x);
    }

    @Says(PRICE_WRONG)
    private static void p4PriceTooSmall() {
        refusesPrice(0, 0);
        refusesPrice(1, -1);
        refusesPrice(1, MIN);
    }

    @Says(PRICE_WRONG)
    private static void p4PriceTooLarge() {
        refusesPrice(0, 21);
        refusesPrice(1, 21);
        refusesPrice(1, MAX);
    }

    @Says(PRICE_WRONG)
    private static void p4PriceThatWouldWrapIntoRange() {
        refusesPrice(0, 257);
        refusesPrice(0, 65537);
    }

    @Says(PRICE_WRONG)
    private static void p4NumberAndPriceWrong() {
        refusesPrice(-1, 0);
        refusesPrice(2, 21);
    }

    @Says(PRICE_WRONG)
    private static void p4TwentyPrices() {
        int taken = 0;
        CrashPlanner x = oneJob(2, 1, 1);
        for (int price = -30; price <= 50; price++) {
            taken += x.price(0, price) == -1 ? 0 : 1;
        }
        due("the count of prices taken", taken, 20);
    }

    // ---- Promise 5: slowest

    @Says(SLOWEST)
    private static void p5Least() {
        due("slowest()", oneJob(0, 0, 1).slowest(), 0);
    }

    @Says(SLOWEST)
    private static void p5Greatest() {
        due("slowest()", fiveInARow(9, 6, 20).slowest(), 45);
    }

    @Says(SLOWEST)
    private static void p5SlowWhereFastIs0() {
        due("slowest()", oneJob(3, 0, 1).slowest(), 3);
    }

    @Says(SLOWEST)
    private static void p5OfSeven() {
        due("slowest()", full().slowest(), 9);
    }

    @Says(SLOWEST)
    private static void p5AfterOtherQuestions() {
        CrashPlanner x = twoInARow();
        x.fastest();
        x.cost(6);
        x.total(200);
        due("slowest()", x.slowest(), 11);
    }

    // ---- Promise 6: fastest

    @Says(FASTEST)
    private static void p6Least() {
        due("fastest()", fiveInARow(3, 0, 1).fastest(), 0);
    }

    @Says(FASTEST)
    private static void p6GreatestWhereNothingCanBeSaved() {
        due("fastest()", fiveInARow(9, 9, 1).fastest(), 45);
    }

    @Says(FASTEST)
    private static void p6GreatestSaving() {
        due("fastest()", fiveInARow(9, 6, 1).fastest(), 30);
    }

    @Says(FASTEST)
    private static void p6OneStiffWayHoldsAllBack() {
        CrashPlanner x = oneJob(7, 7, 1);
        x.add(0, 5, 9, 6, 1);
        due("fastest()", x.fastest(), 7);
    }

    @Says(FASTEST)
    private static void p6PriceDoesNotMatter() {
        CrashPlanner x = oneJob(9, 6, 20);
        due("fastest() at 20", x.fastest(), 6);
        x.price(0, 1);
        due("fastest() at 1", x.fastest(), 6);
    }

    // ---- Promise 7: cost

    @Says(COST)
    private static void p7AtFastest() {
        due("cost(6)", twoInARow().cost(6), 29);
    }

    @Says(COST)
    private static void p7OneAboveFastest() {
        due("cost(7)", twoInARow().cost(7), 22);
    }

    @Says(COST)
    private static void p7OneBelowSlowest() {
        due("cost(10)", twoInARow().cost(10), 4);
    }

    @Says(COST)
    private static void p7AtSlowest() {
        due("cost(11)", twoInARow().cost(11), 0);
    }

    @Says(COST)
    private static void p7AboveSlowest() {
        due("cost(12)", twoInARow().cost(12), 0);
        due("cost(44)", twoInARow().cost(44), 0);
        due("cost(45)", twoInARow().cost(45), 0);
        due("cost(46)", twoInARow().cost(46), 0);
    }

    @Says(COST)
    private static void p7GreatestDeadline() {
        due("cost(MAX)", twoInARow().cost(MAX), 0);
        due("cost(MAX - 1)", twoInARow().cost(MAX - 1), 0);
    }

    @Says(COST)
    private static void p7DeadlineThatWouldWrapToASmallOne() {
        due("cost(256)", twoInARow().cost(256), 0);
        due("cost(262)", twoInARow().cost(262), 0);
        due("cost(65542)", twoInARow().cost(65542), 0);
    }

    @Says(COST)
    private static void p7LongestWay() {
        CrashPlanner x = fiveInARow(9, 6, 20);
        due("cost(30)", x.cost(30), 300);
        due("cost(44)", x.cost(44), 20);
        due("cost(45)", x.cost(45), 0);
        due("cost(46)", x.cost(46), 0);
    }

    @Says(COST)
    private static void p7DeadlineOf0() {
        due("cost(0)", oneJob(3, 0, 20).cost(0), 60);
    }

    @Says(COST_NOTHING)
    private static void p7OneBelowFastest() {
        due("cost(5)", twoInARow().cost(5), -1);
        due("cost(29) of the longest way", fiveInARow(9, 6, 20).cost(29), -1);
        due("cost(44) of the stiffest way", fiveInARow(9, 9, 20).cost(44), -1);
    }

    @Says(COST_NOTHING)
    private static void p7NothingForDeadline0() {
        due("cost(0)", twoInARow().cost(0), -1);
        due("cost(0) of a day", oneJob(1, 1, 1).cost(0), -1);
    }

    @Says(COST_BELOW)
    private static void p7BelowZero() {
        due("cost(-1)", twoInARow().cost(-1), -1);
        due("cost(-1) of a way of no time", oneJob(0, 0, 1).cost(-1), -1);
    }

    @Says(COST_BELOW)
    private static void p7FarBelowZero() {
        due("cost(MIN)", twoInARow().cost(MIN), -1);
        due("cost(MIN + 11)", twoInARow().cost(MIN + 11), -1);
        due("cost(-245)", twoInARow().cost(-245), -1);
    }

    @Says(COST_BELOW)
    private static void p7RefusedCallChangesNothing() {
        CrashPlanner x = twoInARow();
        x.cost(-1);
        stillTwoInARow(x);
    }

    // ---- Promise 8: step

    @Says(STEP)
    private static void p8AtFastest() {
        due("step(6)", twoInARow().step(6), 7);
    }

    @Says(STEP)
    private static void p8OneBelowSlowest() {
        due("step(10)", twoInARow().step(10), 4);
    }

    @Says(STEP)
    private static void p8AtSlowest() {
        due("step(11)", twoInARow().step(11), 0);
    }

    @Says(STEP)
    private static void p8WhereTheStepChanges() {
        CrashPlanner x = twoInARow();
        due("step(8)", x.step(8), 7);
        due("step(9)", x.step(9), 4);
    }

    @Says(STEP)
    private static void p8AboveSlowest() {
        due("step(12)", twoInARow().step(12), 0);
        due("step(44)", twoInARow().step(44), 0);
        due("step(45)", twoInARow().step(45), 0);
        due("step(46)", twoInARow().step(46), 0);
    }

    @Says(STEP)
    private static void p8LongestWay() {
        CrashPlanner x = fiveInARow(9, 6, 20);
        due("step(30)", x.step(30), 20);
        due("step(44)", x.step(44), 20);
        due("step(45)", x.step(45), 0);
    }

    @Says(STEP)
    private static void p8GreatestStep() {
        CrashPlanner x = new CrashPlanner();
        for (int job = 0; job < 7; job++) {
            x.add(0, 5, 9, 6, 20);
        }
        due("step(6)", x.step(6), 140);
    }

    @Says(STEP)
    private static void p8DeadlinePlus1WrapsAround() {
        due("step(MAX)", twoInARow().step(MAX), 0);
        due("step(MAX) of none", new CrashPlanner().step(MAX), 0);
    }

    @Says(STEP)
    private static void p8DeadlinePlus1IsTheGreatestInt() {
        due("step(MAX - 1)", twoInARow().step(MAX - 1), 0);
    }

    @Says(STEP)
    private static void p8DeadlineOf0() {
        due("step(0)", oneJob(3, 0, 20).step(0), 20);
    }

    @Says(STEP_NOTHING)
    private static void p8OneBelowFastest() {
        due("step(5)", twoInARow().step(5), -1);
        due("step(29) of the longest way", fiveInARow(9, 6, 20).step(29), -1);
        due("step(44) of the stiffest way", fiveInARow(9, 9, 20).step(44), -1);
    }

    @Says(STEP_NOTHING)
    private static void p8NothingForBothDeadlines() {
        due("step(4)", twoInARow().step(4), -1);
        due("step(0)", twoInARow().step(0), -1);
    }

    @Says(STEP_BELOW)
    private static void p8BelowZero() {
        due("step(-1)", twoInARow().step(-1), -1);
        due("step(-1) where 0 has a cost", oneJob(3, 0, 20).step(-1), -1);
        due("step(-1) of none", new CrashPlanner().step(-1), -1);
    }

    @Says(STEP_BELOW)
    private static void p8FarBelowZero() {
        due("step(MIN)", twoInARow().step(MIN), -1);
        due("step(MIN + 11)", twoInARow().step(MIN + 11), -1);
    }

    @Says(STEP_BELOW)
    private static void p8RefusedCallChangesNothing() {
        CrashPlanner x = twoInARow();
        x.step(-1);
        stillTwoInARow(x);
    }

    // ---- Promise 9: within

    @Says(WITHIN)
    private static void p9BudgetOf0() {
        due("within(0)", twoInARow().within(0), 11);
        due("within(0) of the longest way", fiveInARow(9, 6, 20).within(0), 45);
        due("within(0) of a way of no time", oneJob(0, 0, 1).within(0), 0);
    }

    @Says(WITHIN)
    private static void p9BudgetOfExactlyACost() {
        due("within(4)", twoInARow().within(4), 10);
        due("within(15)", twoInARow().within(15), 8);
        due("within(29)", twoInARow().within(29), 6);
    }

    @Says(WITHIN)
    private static void p9BudgetOneBelowACost() {
        due("within(3)", twoInARow().within(3), 11);
        due("within(14)", twoInARow().within(14), 9);
        due("within(28)", twoInARow().within(28), 7);
    }

    @Says(WITHIN)
    private static void p9BudgetOneAboveACost() {
        due("within(5)", twoInARow().within(5), 10);
        due("within(16)", twoInARow().within(16), 8);
        due("within(30)", twoInARow().within(30), 6);
    }

    @Says(WITHIN)
    private static void p9GreatestBudget() {
        due("within(MAX)", twoInARow().within(MAX), 6);
        due("within(MAX) of the stiffest way", fiveInARow(9, 9, 20).within(MAX), 45);
    }

    @Says(WITHIN)
    private static void p9BudgetThatWouldWrapToASmallOne() {
        due("within(256)", twoInARow().within(256), 6);
        due("within(65536)", twoInARow().within(65536), 6);
    }

    @Says(WITHIN)
    private static void p9GreatestCost() {
        CrashPlanner x = new CrashPlanner();
        for (int job = 0; job < 7; job++) {
            x.add(0, 5, 9, 6, 20);
        }
        due("within(420)", x.within(420), 6);
        due("within(419)", x.within(419), 7);
    }

    @Says(WITHIN)
    private static void p9DeadlineOf0() {
        CrashPlanner x = oneJob(3, 0, 20);
        due("within(60)", x.within(60), 0);
        due("within(59)", x.within(59), 1);
    }

    @Says(WITHIN)
    private static void p9StiffestWay() {
        due("within(0)", fiveInARow(9, 9, 20).within(0), 45);
    }

    @Says(WITHIN_BELOW)
    private static void p9BelowZero() {
        due("within(-1)", twoInARow().within(-1), -1);
        due("within(-1) of none", new CrashPlanner().within(-1), -1);
    }

    @Says(WITHIN_BELOW)
    private static void p9FarBelowZero() {
        due("within(MIN)", twoInARow().within(MIN), -1);
    }

    @Says(WITHIN_BELOW)
    private static void p9RefusedCallChangesNothing() {
        CrashPlanner x = twoInARow();
        x.within(-1);
        stillTwoInARow(x);
    }

    // ---- Promise 10: total

    @Says(TOTAL)
    private static void p10OnlyDeadlinesWithACost() {
        due("total(200)", oneJob(4, 4, 1).total(200), 800);
        due("total(200) of the stiffest way", fiveInARow(9, 9, 20).total(200), 9000);
    }

    @Says(TOTAL)
    private static void p10LeastAtFastest() {
        due("total(8)", twoInARow().total(8), 77);
    }

    @Says(TOTAL)
    private static void p10LeastBetween() {
        due("total(5)", twoInARow().total(5), 53);
    }

    @Says(TOTAL)
    private static void p10LeastAtSlowest() {
        due("total(3)", twoInARow().total(3), 33);
    }

    @Says(TOTAL)
    private static void p10SameAtSeveralDeadlines() {
        due("total(4)", twoInARow().total(4), 44);
        due("total(7)", twoInARow().total(7), 71);
    }

    @Says(TOTAL)
    private static void p10LeastAtDeadline0() {
        CrashPlanner x = oneJob(3, 0, 20);
        due("total(200)", x.total(200), 60);
        due("total(20)", x.total(20), 60);
        due("total(19)", x.total(19), 57);
    }

    @Says(TOTAL)
    private static void p10LongestWay() {
        CrashPlanner x = fiveInARow(9, 6, 20);
        due("total(19)", x.total(19), 855);
        due("total(20)", x.total(20), 900);
        due("total(21)", x.total(21), 930);
    }

    @Says(TOTAL)
    private static void p10GreatDeadlinesDoNotWrapAround() {
        // 2 * 2147483647 + 2 is 0 in ints: a deadline so late must not look cheap.
        due("total(2)", oneJob(4, 4, 1).total(2), 8);
    }

    @Says(TOTAL_RANGE)
    private static void p10PerDayLeast() {
        due("total(0)", twoInARow().total(0), 0);
        due("total(0) of the stiffest way", fiveInARow(9, 9, 20).total(0), 0);
    }

    @Says(TOTAL_RANGE)
    private static void p10PerDayTooSmall() {
        due("total(-1)", twoInARow().total(-1), -1);
        due("total(-1) of none", new CrashPlanner().total(-1), -1);
        due("total(MIN)", twoInARow().total(MIN), -1);
    }

    @Says(TOTAL_RANGE)
    private static void p10PerDayGreatest() {
        due("total(200)", twoInARow().total(200), 1229);
        due("total(199)", twoInARow().total(199), 1223);
    }

    @Says(TOTAL_RANGE)
    private static void p10PerDayTooLarge() {
        due("total(201)", twoInARow().total(201), -1);
        due("total(201) of none", new CrashPlanner().total(201), -1);
        due("total(MAX)", twoInARow().total(MAX), -1);
    }

    @Says(TOTAL_RANGE)
    private static void p10PerDayThatWouldWrapIntoRange() {
        due("total(256)", twoInARow().total(256), -1);
        due("total(65536)", twoInARow().total(65536), -1);
    }

    @Says(TOTAL_RANGE)
    private static void p10RefusedCallChangesNothing() {
        CrashPlanner x = twoInARow();
        x.total(-1);
        x.total(201);
        stillTwoInARow(x);
    }

    // ---- running them

    private static void run(Method test) throws IllegalAccessException {
        running = test.getName() + " (\"" + test.getAnnotation(Says.class).value() + "\")";
        try {
            test.invoke(null);
        } catch (InvocationTargetException thrown) {
            wrong++;
            System.out.println(running + ": threw " + thrown.getCause());
        }
    }

    public static void main(String[] args) throws IllegalAccessException {
        Method[] methods = BoundaryTest.class.getDeclaredMethods();
        Arrays.sort(methods, Comparator.comparing(Method::getName));
        int tests = 0;
        for (Method method : methods) {
            if (method.isAnnotationPresent(Says.class)) {
                tests++;
                run(method);
            }
        }
        System.out.println(tests + " boundary cases: "
            + (wrong == 0 ? "all answers are as due" : wrong + " answers are not as due"));
        if (wrong != 0 || tests == 0) {
            System.exit(1);
        }
    }
}
