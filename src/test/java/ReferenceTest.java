import java.util.ArrayList;
import java.util.List;

/**
 * Long runs of calls against a second reading of the document, which asks every way and every
 * plan for itself and keeps nothing between calls.
 */
public final class ReferenceTest {
    private static final int RUNS = 60;
    private static final int CALLS = 512;
    // Above any length (45), so the flat end of the curve is looked at too.
    private static final int DEADLINES = 60;

    private static int wrong = 0;
    private static long seed = 20261115L;

    private final List<int[]> jobs = new ArrayList<>();

    /** Numbers that look random and are the same in each run of the test. */
    private static int pick(int least, int most) {
        seed = seed * 6364136223846793005L + 1442695040888963407L;
        return least + (int) ((seed >>> 33) % (most - least + 1));
    }

    /** Mostly from the range, now and then just outside it or far away. */
    private static int pickLoose(int least, int most) {
        int kind = pick(0, 39);
        if (kind == 0) {
            return least - 1;
        }
        if (kind == 1) {
            return most + 1;
        }
        if (kind == 2) {
            return pick(0, 1) == 0 ? Integer.MIN_VALUE : Integer.MAX_VALUE;
        }
        return pick(least, most);
    }

    private int add(int from, int to, int slow, int fast, int price) {
        boolean fits = jobs.size() < 7 && from >= 0 && to <= 5 && from < to
            && fast >= 0 && slow <= 9 && fast <= slow && (long) slow - fast <= 3
            && price >= 1 && price <= 20;
        if (!fits) {
            return -1;
        }
        jobs.add(new int[] {from, to, slow, fast, price});
        return jobs.size();
    }

    private int drop(int number) {
        if (number < 0 || number >= jobs.size()) {
            return -1;
        }
        jobs.remove(number);
        return jobs.size();
    }

    private int price(int number, int price) {
        if (number < 0 || number >= jobs.size() || price < 1 || price > 20) {
            return -1;
        }
        int before = jobs.get(number)[4];
        jobs.get(number)[4] = price;
        return before;
    }

    /** The jobs of every way from an event to the end. */
    private void ways(int event, List<Integer> behind, List<List<Integer>> found) {
        if (event == 5) {
            found.add(new ArrayList<>(behind));
            return;
        }
        for (int job = 0; job < jobs.size(); job++) {
            if (jobs.get(job)[0] == event) {
                behind.add(job);
                ways(jobs.get(job)[1], behind, found);
                behind.remove(behind.size() - 1);
            }
        }
    }

    private static int length(int[] times, List<List<Integer>> ways) {
        int longest = 0;
        for (List<Integer> way : ways) {
            int sum = 0;
            for (int job : way) {
                sum += times[job];
            }
            longest = Math.max(longest, sum);
        }
        return longest;
    }

    private void tryPlans(int[] times, int job, int cost, List<List<Integer>> ways, int[] curve) {
        if (job == jobs.size()) {
            for (int t = length(times, ways); t < curve.length; t++) {
                if (curve[t] == -1 || cost < curve[t]) {
                    curve[t] = cost;
                }
            }
            return;
        }
        int[] it = jobs.get(job);
        for (int time = it[3]; time <= it[2]; time++) {
            times[job] = time;
            tryPlans(times, job + 1, cost + it[4] * (it[2] - time), ways, curve);
        }
    }

    private int[] curve() {
        List<List<Integer>> ways = new ArrayList<>();
        ways(0, new ArrayList<>(), ways);
        int[] curve = new int[DEADLINES];
        java.util.Arrays.fill(curve, -1);
        tryPlans(new int[jobs.size()], 0, 0, ways, curve);
        return curve;
    }

    private int timesLength(int which) {
        List<List<Integer>> ways = new ArrayList<>();
        ways(0, new ArrayList<>(), ways);
        int[] times = new int[jobs.size()];
        for (int job = 0; job < times.length; job++) {
            times[job] = jobs.get(job)[which];
        }
        return length(times, ways);
    }

    private int cost(int deadline) {
        return deadline < 0 ? -1 : curve()[Math.min(deadline, DEADLINES - 1)];
    }

    private int step(int deadline) {
        int here = cost(deadline);
        return here == -1 ? -1 : here - cost((int) Math.min(deadline + 1L, Integer.MAX_VALUE));
    }

    private int within(int budget) {
        int[] curve = curve();
        for (int t = 0; t < DEADLINES; t++) {
            if (curve[t] != -1 && curve[t] <= budget) {
                return t;
            }
        }
        return -1;
    }

    private int total(int perDay) {
        if (perDay < 0 || perDay > 200) {
            return -1;
        }
        int[] curve = curve();
        int least = Integer.MAX_VALUE;
        for (int t = 0; t < DEADLINES; t++) {
            if (curve[t] != -1) {
                least = Math.min(least, curve[t] + perDay * t);
            }
        }
        return least;
    }

    private static void due(int run, int call, String what, int got, int want) {
        if (got != want) {
            wrong++;
            System.out.println("run " + run + ", call " + call + ": " + what + " answered " + got + ", due is " + want);
        }
    }

    private void changeCall(int run, int call, CrashPlanner x) {
        int kind = pick(0, 9);
        if (kind < 6) {
            int from = pickLoose(0, 4);
            int to = pick(0, 9) == 0 ? pickLoose(0, 5) : from >= 0 && from < 5 ? pick(from + 1, 5) : 5;
            int slow = pickLoose(0, 9);
            int fast = pick(0, 9) == 0 ? pickLoose(0, 9) : Math.max(0, slow - pickLoose(0, 3));
            int price = pickLoose(1, 20);
            due(run, call, "add(" + from + ", " + to + ", " + slow + ", " + fast + ", " + price + ")",
                x.add(from, to, slow, fast, price), add(from, to, slow, fast, price));
        } else if (kind < 8) {
            int number = pickLoose(0, 6);
            due(run, call, "drop(" + number + ")", x.drop(number), drop(number));
        } else {
            int number = pickLoose(0, 6);
            int price = pickLoose(1, 20);
            due(run, call, "price(" + number + ", " + price + ")", x.price(number, price), price(number, price));
        }
    }

    private void askCall(int run, int call, CrashPlanner x) {
        int kind = pick(0, 5);
        if (kind == 0) {
            due(run, call, "slowest()", x.slowest(), timesLength(2));
        } else if (kind == 1) {
            due(run, call, "fastest()", x.fastest(), timesLength(3));
        } else if (kind == 2) {
            int deadline = pickLoose(0, pick(0, 1) == 0 ? 20 : 46);
            due(run, call, "cost(" + deadline + ")", x.cost(deadline), cost(deadline));
        } else if (kind == 3) {
            int deadline = pickLoose(0, pick(0, 1) == 0 ? 20 : 46);
            due(run, call, "step(" + deadline + ")", x.step(deadline), step(deadline));
        } else if (kind == 4) {
            int budget = pickLoose(0, pick(0, 1) == 0 ? 60 : 420);
            due(run, call, "within(" + budget + ")", x.within(budget), within(budget));
        } else {
            int perDay = pickLoose(0, pick(0, 1) == 0 ? 40 : 200);
            due(run, call, "total(" + perDay + ")", x.total(perDay), total(perDay));
        }
    }

    public static void main(String[] args) {
        for (int run = 1; run <= RUNS; run++) {
            CrashPlanner x = new CrashPlanner();
            ReferenceTest reference = new ReferenceTest();
            for (int call = 1; call <= CALLS; call++) {
                if (pick(0, 2) == 0) {
                    reference.changeCall(run, call, x);
                } else {
                    reference.askCall(run, call, x);
                }
            }
        }
        System.out.println(wrong == 0 ? "all answers are as due" : wrong + " answers are not as due");
        if (wrong != 0) {
            System.exit(1);
        }
    }
}
