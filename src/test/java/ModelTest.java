import java.util.ArrayDeque;
import java.util.ArrayList;
import java.util.HashMap;
import java.util.List;
import java.util.Map;
import java.util.Random;

/**
 * Compares the class with a slow model that follows the document's words: schedules are lists that are played
 * from the beginning, and classes are found by making the exchanges.
 */
public final class ModelTest {
    private static final int RUNS = 250;
    private static final int CHANGES = 14;

    private static int wrong = 0;

    private final List<List<int[]>> steps = List.of(new ArrayList<>(), new ArrayList<>(), new ArrayList<>());
    private final int[] variables = new int[3];
    private final int[] accumulators = new int[3];

    private Map<String, End> ends = new HashMap<>();

    private static final class End {
        final int[] variables;
        final int[] accumulators;
        final int[] done = new int[3];
        final int[] holders = {-1, -1};

        End(ModelTest program) {
            variables = program.variables.clone();
            accumulators = program.accumulators.clone();
        }
    }

    public static void main(String[] args) {
        Random random = new Random(20261115);
        for (int run = 0; run < RUNS && wrong < 20; run++) {
            oneRun(run, random);
        }
        for (int run = 0; run < 6 && wrong < 20; run++) {
            fullRun(RUNS + run, random);
        }
        System.out.println(wrong == 0 ? "all answers are as due" : wrong + " answers are not as due");
        if (wrong != 0) {
            System.exit(1);
        }
    }

    private static void oneRun(int run, Random random) {
        ScheduleReducer real = new ScheduleReducer();
        ModelTest model = new ModelTest();
        // Some runs keep to a few kinds, so that locks, or the variables, meet often.
        int firstKind = run % 3 == 0 ? 4 : 0;
        int kinds = run % 3 == 1 ? 4 : 6;
        for (int change = 0; change < CHANGES; change++) {
            model.change(run, real, random, firstKind, kinds);
        }
        model.compare(run, real);
        model.change(run, real, random, 0, 6);
        model.compare(run, real);
    }

    private static void fullRun(int run, Random random) {
        ScheduleReducer real = new ScheduleReducer();
        ModelTest model = new ModelTest();
        for (int i = 0; i < 13; i++) {
            model.step(run, real, i % 3, random.nextInt(i < 9 ? 4 : 6), random.nextInt(2));
        }
        model.compare(run, real);
    }

    private static void due(int run, String what, long got, long want) {
        if (got != want) {
            wrong++;
            System.out.println("run " + run + ": " + what + " answered " + got + ", due is " + want);
        }
    }

    private static void due(int run, String what, boolean got, boolean want) {
        due(run, what, got ? 1L : 0L, want ? 1L : 0L);
    }

    private void change(int run, ScheduleReducer real, Random random, int firstKind, int kinds) {
        int choice = random.nextInt(12);
        if (choice < 9) {
            int kind = random.nextInt(10) == 0 ? random.nextInt(8) - 1 : firstKind + random.nextInt(kinds - firstKind);
            int n = random.nextInt(12) == 0 ? random.nextInt(6) - 2 : random.nextInt(2);
            step(run, real, random.nextInt(20) == 0 ? random.nextInt(6) - 2 : random.nextInt(3), kind, n);
        } else if (choice < 10) {
            drop(run, real, random.nextInt(5) - 1);
        } else {
            begin(run, real, random.nextInt(10) == 0 ? 2 : random.nextInt(2), random.nextInt(5) - 1, random.nextInt(7) - 3);
        }
    }

    private void step(int run, ScheduleReducer real, int t, int kind, int n) {
        int want;
        if (t < 0 || t > 2 || kind < 0 || kind > 5) {
            want = -1;
        } else if (kind != 3 && (n < 0 || n > (kind < 3 ? 2 : 1))) {
            want = -1;
        } else if (steps.get(t).size() == 4) {
            want = -2;
        } else {
            want = steps.get(t).size();
            steps.get(t).add(new int[] {kind, n});
        }
        due(run, "step(" + t + ", " + kind + ", " + n + ")", real.step(t, kind, n), want);
    }

    private void drop(int run, ScheduleReducer real, int t) {
        int want = -1;
        if (t >= 0 && t <= 2 && !steps.get(t).isEmpty()) {
            steps.get(t).remove(steps.get(t).size() - 1);
            want = steps.get(t).size();
        }
        due(run, "drop(" + t + ")", real.drop(t), want);
    }

    private void begin(int run, ScheduleReducer real, int what, int x, int v) {
        boolean want = x >= 0 && x <= 2 && (what == 0 || what == 1);
        if (want) {
            (what == 0 ? variables : accumulators)[x] = v;
        }
        due(run, "begin(" + what + ", " + x + ", " + v + ")", real.begin(what, x, v), want);
    }

    private void compare(int run, ScheduleReducer real) {
        ends = new HashMap<>();
        findEnds("");
        boolean stuck = false;
        for (End end : ends.values()) {
            for (int t = 0; t < 3; t++) {
                stuck |= end.done[t] < steps.get(t).size();
            }
        }
        due(run, "schedules()", real.schedules(), ends.size());
        due(run, "classes()", real.classes(), countClasses(run));
        due(run, "canStick()", real.canStick(), stuck);
        for (int x = 0; x < 3; x++) {
            due(run, "length(" + x + ")", real.length(x), steps.get(x).size());
            compareExtremes(run, real, x);
            for (int v = -4; v <= 4; v++) {
                due(run, "canEnd(" + x + ", " + v + ")", real.canEnd(x, v), endsWith(x, v, x, v));
            }
        }
        for (int pair = 0; pair < 9; pair++) {
            compareBoth(run, real, pair / 3, pair % 3);
        }
    }

    private void compareExtremes(int run, ScheduleReducer real, int x) {
        int least = ends.values().stream().mapToInt(end -> end.variables[x]).min().getAsInt();
        int greatest = ends.values().stream().mapToInt(end -> end.variables[x]).max().getAsInt();
        due(run, "extreme(" + x + ", 0)", real.extreme(x, 0), least);
        due(run, "extreme(" + x + ", 1)", real.extreme(x, 1), greatest);
        due(run, "races(" + x + ")", real.races(x), least != greatest);
        least = ends.values().stream().mapToInt(end -> end.accumulators[x]).min().getAsInt();
        greatest = ends.values().stream().mapToInt(end -> end.accumulators[x]).max().getAsInt();
        due(run, "accumulator(" + x + ", 0)", real.accumulator(x, 0), least);
        due(run, "accumulator(" + x + ", 1)", real.accumulator(x, 1), greatest);
    }

    private void compareBoth(int run, ScheduleReducer real, int x, int y) {
        for (int v = -1; v <= 2; v++) {
            for (int w = -1; w <= 2; w++) {
                String call = "canEndBoth(" + x + ", " + v + ", " + y + ", " + w + ")";
                due(run, call, real.canEndBoth(x, v, y, w), endsWith(x, v, y, w));
            }
        }
    }

    private boolean endsWith(int x, int v, int y, int w) {
        return ends.values().stream().anyMatch(end -> end.variables[x] == v && end.variables[y] == w);
    }

    private void findEnds(String schedule) {
        boolean complete = true;
        for (char thread = '0'; thread <= '2'; thread++) {
            if (play(schedule + thread) != null) {
                complete = false;
                findEnds(schedule + thread);
            }
        }
        if (complete) {
            ends.put(schedule, play(schedule));
        }
    }

    /** What the schedule comes to, or null when some thread in it can't have its turn. */
    private End play(String schedule) {
        End state = new End(this);
        for (char thread : schedule.toCharArray()) {
            int t = thread - '0';
            if (state.done[t] == steps.get(t).size()) {
                return null;
            }
            int[] step = steps.get(t).get(state.done[t]++);
            if (step[0] == 4 && state.holders[step[1]] != -1) {
                return null;
            }
            carryOut(state, t, step[0], step[1]);
        }
        return state;
    }

    private static void carryOut(End state, int t, int kind, int n) {
        int accumulator = state.accumulators[t];
        if (kind == 3) {
            state.accumulators[t] = accumulator + n;
        }
        if (kind == 0 || kind == 2) {
            state.accumulators[t] = state.variables[n];
        }
        if (kind == 1 || kind == 2) {
            state.variables[n] = accumulator;
        }
        if (kind == 4) {
            state.holders[n] = t;
        }
        if (kind == 5 && state.holders[n] == t) {
            state.holders[n] = -1;
        }
    }

    private int countClasses(int run) {
        Map<String, Boolean> seen = new HashMap<>();
        int count = 0;
        for (String start : ends.keySet()) {
            if (seen.put(start, true) != null) {
                continue;
            }
            count++;
            ArrayDeque<String> open = new ArrayDeque<>(List.of(start));
            while (!open.isEmpty()) {
                for (String next : exchanges(open.remove())) {
                    due(run, "whether the exchange " + next + " is a complete schedule", ends.containsKey(next), true);
                    if (seen.put(next, true) == null) {
                        open.add(next);
                    }
                }
            }
        }
        return count;
    }

    private List<String> exchanges(String schedule) {
        List<String> found = new ArrayList<>();
        int[] done = new int[3];
        int[] before = null;
        for (int i = 0; i < schedule.length(); i++) {
            int t = schedule.charAt(i) - '0';
            int[] step = steps.get(t).get(done[t]++);
            if (i > 0 && schedule.charAt(i - 1) != schedule.charAt(i) && !touch(before, step)) {
                found.add(schedule.substring(0, i - 1) + schedule.charAt(i) + schedule.charAt(i - 1) + schedule.substring(i + 1));
            }
            before = step;
        }
        return found;
    }

    private static boolean touch(int[] one, int[] other) {
        boolean bothVariable = one[0] <= 2 && other[0] <= 2;
        boolean bothLoad = one[0] == 0 && other[0] == 0;
        boolean bothLock = one[0] >= 4 && other[0] >= 4;
        return one[1] == other[1] && (bothVariable && !bothLoad || bothLock);
    }
}
