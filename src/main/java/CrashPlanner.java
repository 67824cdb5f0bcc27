/** A project of jobs that can be done faster for money, and what each deadline costs. */
public final class CrashPlanner {
    private static final int MOST_JOBS = 7;
    private static final int EVENTS = 6;
    private static final int BEGINNING = 0;
    private static final int END = 5;
    private static final int MOST_TIME = 9;
    private static final int MOST_SAVED = 3;
    private static final int LEAST_PRICE = 1;
    private static final int MOST_PRICE = 20;
    private static final int MOST_PER_DAY = 200;

    // A way climbs from event to event, so it has at most five jobs, of at most 9 each:
    // from this deadline on the curve is flat, and its value there stands for all later ones.
    private static final int LAST_DEADLINE = 45;
    private static final int DEADLINES = 46;

    // Two bits of a plan's number tell the units that one job saves, which are at most 3.
    private static final int BITS_PER_JOB = 2;
    private static final int JOB_MASK = 3;

    private static final int REFUSED = -1;
    private static final int NOTHING = -1;
    private static final int NOT_REACHED = -1;

    private final int[] froms = new int[MOST_JOBS];
    private final int[] tos = new int[MOST_JOBS];
    private final int[] slows = new int[MOST_JOBS];
    private final int[] fasts = new int[MOST_JOBS];
    private final int[] prices = new int[MOST_JOBS];
    private int jobs;

    private final int[] reached = new int[EVENTS];
    private final int[] curve = new int[DEADLINES];
    // Going through all plans is the costly part, so the curve is kept until a job changes.
    private boolean curveStands;

    public CrashPlanner() {
        jobs = 0;
        curveStands = false;
    }

    public int add(int from, int to, int slow, int fast, int price) {
        if (jobs >= MOST_JOBS || !eventsFit(from, to) || !timesFit(slow, fast) || !priceFits(price)) {
            return REFUSED;
        }
        froms[jobs] = from;
        tos[jobs] = to;
        slows[jobs] = slow;
        fasts[jobs] = fast;
        prices[jobs] = price;
        jobs++;
        curveStands = false;
        return jobs;
    }

    public int drop(int number) {
        if (!isJob(number)) {
            return REFUSED;
        }
        for (int job = number; job < jobs - 1; job++) {
            froms[job] = froms[job + 1];
            tos[job] = tos[job + 1];
            slows[job] = slows[job + 1];
            fasts[job] = fasts[job + 1];
            prices[job] = prices[job + 1];
        }
        jobs--;
        curveStands = false;
        return jobs;
    }

    public int price(int number, int price) {
        if (!isJob(number) || !priceFits(price)) {
            return REFUSED;
        }
        int before = prices[number];
        prices[number] = price;
        curveStands = false;
        return before;
    }

    public int slowest() {
        // Plan 0 saves nothing on any job.
        return planLength(0);
    }

    public int fastest() {
        drawCurve();
        return firstDeadline();
    }

    public int cost(int deadline) {
        if (deadline < 0) {
            return NOTHING;
        }
        drawCurve();
        return curveAt(deadline);
    }

    public int step(int deadline) {
        if (deadline < 0) {
            return NOTHING;
        }
        drawCurve();
        int here = curveAt(deadline);
        if (here == NOTHING) {
            return NOTHING;
        }
        // The flat end is answered apart, as deadline + 1 may not be an int.
        if (deadline >= LAST_DEADLINE) {
            return 0;
        }
        return here - curveAt(deadline + 1);
    }

    public int within(int budget) {
        if (budget < 0) {
            return NOTHING;
        }
        drawCurve();
        for (int deadline = firstDeadline(); deadline < LAST_DEADLINE; deadline++) {
            if (curveAt(deadline) <= budget) {
                return deadline;
            }
        }
        // The slowest plan costs nothing and is never longer than this.
        return LAST_DEADLINE;
    }

    public int total(int perDay) {
        if (perDay < 0 || perDay > MOST_PER_DAY) {
            return NOTHING;
        }
        drawCurve();
        // Deadlines behind the last one cost as much and take longer, so none of them is less.
        int least = perDay * LAST_DEADLINE;
        for (int deadline = firstDeadline(); deadline < LAST_DEADLINE; deadline++) {
            int sum = curveAt(deadline) + perDay * deadline;
            if (sum < least) {
                least = sum;
            }
        }
        return least;
    }

    private static boolean eventsFit(int from, int to) {
        return BEGINNING <= from && from < to && to <= END;
    }

    private static boolean timesFit(int slow, int fast) {
        return 0 <= fast && fast <= slow && slow <= MOST_TIME && slow - fast <= MOST_SAVED;
    }

    private static boolean priceFits(int price) {
        return LEAST_PRICE <= price && price <= MOST_PRICE;
    }

    private boolean isJob(int number) {
        return 0 <= number && number < jobs;
    }

    /** What the curve gives for a deadline of 0 or more, once it is drawn. */
    private int curveAt(int deadline) {
        return curve[deadline < LAST_DEADLINE ? deadline : LAST_DEADLINE];
    }

    /** The least deadline for which the drawn curve gives something. */
    private int firstDeadline() {
        for (int deadline = 0; deadline < LAST_DEADLINE; deadline++) {
            if (curve[deadline] != NOTHING) {
                return deadline;
            }
        }
        return LAST_DEADLINE;
    }

    private void drawCurve() {
        if (curveStands) {
            return;
        }
        for (int deadline = 0; deadline < DEADLINES; deadline++) {
            curve[deadline] = NOTHING;
        }
        int plans = 1 << (BITS_PER_JOB * jobs);
        for (int plan = 0; plan < plans; plan++) {
            if (isPlan(plan)) {
                int length = planLength(plan);
                int money = planCost(plan);
                lowerCurve(length, money);
            }
        }
        spreadCurve();
        curveStands = true;
    }

    private void lowerCurve(int deadline, int offer) {
        if (curve[deadline] == NOTHING || offer < curve[deadline]) {
            curve[deadline] = offer;
        }
    }

    /** A plan keeps every deadline behind its length too. */
    private void spreadCurve() {
        for (int deadline = 1; deadline < DEADLINES; deadline++) {
            int before = curve[deadline - 1];
            if (before != NOTHING) {
                lowerCurve(deadline, before);
            }
        }
    }

    private static int savedBy(int plan, int job) {
        return (plan >> (BITS_PER_JOB * job)) & JOB_MASK;
    }

    /** Not every number is a plan: a job may save less than its two bits could tell. */
    private boolean isPlan(int plan) {
        for (int job = 0; job < jobs; job++) {
            if (savedBy(plan, job) > slows[job] - fasts[job]) {
                return false;
            }
        }
        return true;
    }

    private int planCost(int plan) {
        int sum = 0;
        for (int job = 0; job < jobs; job++) {
            sum += prices[job] * savedBy(plan, job);
        }
        return sum;
    }

    private int planLength(int plan) {
        for (int event = 0; event < EVENTS; event++) {
            reached[event] = NOT_REACHED;
        }
        reached[BEGINNING] = 0;
        // Jobs lead to greater events only, so an event's value is final when its turn comes.
        for (int event = BEGINNING; event < END; event++) {
            if (reached[event] != NOT_REACHED) {
                followJobs(plan, event);
            }
        }
        return reached[END] == NOT_REACHED ? 0 : reached[END];
    }

    private void followJobs(int plan, int event) {
        for (int job = 0; job < jobs; job++) {
            if (froms[job] == event) {
                int arrival = reached[event] + slows[job] - savedBy(plan, job);
                if (arrival > reached[tos[job]]) {
                    reached[tos[job]] = arrival;
                }
            }
        }
    }
}
