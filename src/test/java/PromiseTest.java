/** Answers worked out by hand from the document, promise by promise. */
public final class PromiseTest {
    private static final int LOAD = 0;
    private static final int STORE = 1;
    private static final int SWAP = 2;
    private static final int PLUS = 3;
    private static final int TAKE = 4;
    private static final int GIVE = 5;
    private static final int[] OUTSIDE = {-1, 3, 4, Integer.MIN_VALUE, Integer.MAX_VALUE};
    private static final int[] NO_SIDE = {-1, 2, 3, Integer.MIN_VALUE, Integer.MAX_VALUE};

    private static int wrong = 0;

    public static void main(String[] args) {
        newObject();
        step();
        stepWrongInputs();
        stepOrderOfTests();
        drop();
        begin();
        length();
        schedules();
        schedulesWithLocks();
        classes();
        classesOfLockSteps();
        canStick();
        canEnd();
        canEndBoth();
        extreme();
        accumulator();
        races();
        eachStepKind();
        questionsChangeNothing();
        objectsAreApart();
        readmeExample();
        System.out.println(wrong == 0 ? "all answers are as due" : wrong + " answers are not as due");
        if (wrong != 0) {
            System.exit(1);
        }
    }

    private static void due(String what, long got, long want) {
        if (got != want) {
            wrong++;
            System.out.println(what + " answered " + got + ", due is " + want);
        }
    }

    private static void due(String what, boolean got, boolean want) {
        due(what, got ? 1L : 0L, want ? 1L : 0L);
    }

    /** One row for each thread: kind, operand, kind, operand, ... */
    private static ScheduleReducer with(int[]... threads) {
        ScheduleReducer r = new ScheduleReducer();
        for (int t = 0; t < threads.length; t++) {
            for (int i = 0; i < threads[t].length; i += 2) {
                due("step of a program", r.step(t, threads[t][i], threads[t][i + 1]), i / 2);
            }
        }
        return r;
    }

    private static int[] steps(int... kindsAndOperands) {
        return kindsAndOperands;
    }

    private static void newObject() {
        ScheduleReducer r = new ScheduleReducer();
        due("1 NONE", ScheduleReducer.NONE, -1);
        due("1 FULL", ScheduleReducer.FULL, -2);
        for (int i = 0; i < 3; i++) {
            due("1 length", r.length(i), 0);
            for (int what = 0; what < 2; what++) {
                due("1 extreme", r.extreme(i, what), 0);
                due("1 accumulator", r.accumulator(i, what), 0);
            }
            due("1 canEnd 0", r.canEnd(i, 0), true);
            due("1 canEnd 1", r.canEnd(i, 1), false);
            due("1 races", r.races(i), false);
            due("1 drop", r.drop(i), ScheduleReducer.NONE);
        }
        due("1 schedules", r.schedules(), 1);
        due("1 classes", r.classes(), 1);
        due("1 canStick", r.canStick(), false);
    }

    private static void step() {
        for (int t = 0; t < 3; t++) {
            ScheduleReducer r = new ScheduleReducer();
            for (int place = 0; place < 4; place++) {
                due("2 step", r.step(t, PLUS, place), place);
                due("2 length", r.length(t), place + 1);
            }
            due("2 fifth step", r.step(t, PLUS, 100), ScheduleReducer.FULL);
            due("2 length when full", r.length(t), 4);
            due("2 a refused step is not carried out", r.accumulator(t, 1), 6);
            due("2 other thread", r.length((t + 1) % 3), 0);
            due("2 a full thread leaves the others room", r.step((t + 1) % 3, LOAD, 0), 0);
        }
        ScheduleReducer r = new ScheduleReducer();
        for (int n = 0; n < 3; n++) {
            due("2 LOAD", r.step(0, LOAD, n), n);
            due("2 STORE", r.step(1, STORE, n), n);
            due("2 SWAP", r.step(2, SWAP, n), n);
        }
        ScheduleReducer s = new ScheduleReducer();
        due("2 TAKE 0", s.step(0, TAKE, 0), 0);
        due("2 TAKE 1", s.step(0, TAKE, 1), 1);
        due("2 GIVE 0", s.step(0, GIVE, 0), 2);
        due("2 GIVE 1", s.step(0, GIVE, 1), 3);
        due("2 PLUS least", s.step(1, PLUS, Integer.MIN_VALUE), 0);
        due("2 PLUS greatest", s.step(1, PLUS, Integer.MAX_VALUE), 1);
    }

    private static void stepWrongInputs() {
        ScheduleReducer r = new ScheduleReducer();
        for (int n : OUTSIDE) {
            for (int kind = 0; kind < 6; kind++) {
                due("2 no such thread", r.step(n, kind, 0), ScheduleReducer.NONE);
                if (kind != PLUS) {
                    due("2 no such operand of kind " + kind, r.step(0, kind, n), ScheduleReducer.NONE);
                }
            }
        }
        due("2 no lock 2 to take", r.step(0, TAKE, 2), ScheduleReducer.NONE);
        due("2 no lock 2 to give", r.step(0, GIVE, 2), ScheduleReducer.NONE);
        for (int kind : new int[] {-1, 6, 7, Integer.MIN_VALUE, Integer.MAX_VALUE}) {
            due("2 no such kind", r.step(0, kind, 0), ScheduleReducer.NONE);
        }
        for (int t = 0; t < 3; t++) {
            due("2 nothing appended", r.length(t), 0);
        }
    }

    private static void stepOrderOfTests() {
        ScheduleReducer r = with(steps(PLUS, 1, PLUS, 1, PLUS, 1, PLUS, 1));
        due("14 kind before full", r.step(0, 6, 0), ScheduleReducer.NONE);
        due("14 kind below before full", r.step(0, -1, 0), ScheduleReducer.NONE);
        due("14 variable before full", r.step(0, LOAD, 3), ScheduleReducer.NONE);
        due("14 STORE before full", r.step(0, STORE, -1), ScheduleReducer.NONE);
        due("14 SWAP before full", r.step(0, SWAP, 3), ScheduleReducer.NONE);
        due("14 lock before full", r.step(0, TAKE, 2), ScheduleReducer.NONE);
        due("14 GIVE before full", r.step(0, GIVE, -1), ScheduleReducer.NONE);
        due("14 full", r.step(0, LOAD, 2), ScheduleReducer.FULL);
        due("14 full for PLUS", r.step(0, PLUS, -7), ScheduleReducer.FULL);
        due("14 full for GIVE", r.step(0, GIVE, 1), ScheduleReducer.FULL);
    }

    private static void drop() {
        ScheduleReducer r = with(steps(PLUS, 1, PLUS, 10, PLUS, 100, PLUS, 1000), steps(PLUS, 5));
        due("3 drop", r.drop(0), 3);
        due("3 the last went", r.accumulator(0, 0), 111);
        due("3 drop", r.drop(0), 2);
        due("3 the last went", r.accumulator(0, 0), 11);
        due("3 step after drop", r.step(0, PLUS, 7), 2);
        due("3 the new one counts", r.accumulator(0, 0), 18);
        due("3 drop", r.drop(0), 2);
        due("3 drop", r.drop(0), 1);
        due("3 drop", r.drop(0), 0);
        due("3 nothing left", r.drop(0), ScheduleReducer.NONE);
        due("3 length", r.length(0), 0);
        due("3 other thread", r.length(1), 1);
        due("3 never had any", r.drop(2), ScheduleReducer.NONE);
        for (int t : OUTSIDE) {
            due("3 no such thread", r.drop(t), ScheduleReducer.NONE);
        }
        due("3 still there", r.length(1), 1);
    }

    private static void begin() {
        ScheduleReducer r = new ScheduleReducer();
        for (int x = 0; x < 3; x++) {
            due("4 variable", r.begin(0, x, 10 + x), true);
            due("4 accumulator", r.begin(1, x, 20 + x), true);
        }
        for (int wrongArgument : OUTSIDE) {
            due("4 no such variable", r.begin(0, wrongArgument, 99), false);
            due("4 no such accumulator", r.begin(1, wrongArgument, 99), false);
        }
        for (int what : NO_SIDE) {
            due("4 no such what", r.begin(what, 0, 99), false);
        }
        for (int x = 0; x < 3; x++) {
            due("4 extreme", r.extreme(x, 0), 10 + x);
            due("4 accumulator", r.accumulator(x, 0), 20 + x);
        }
        due("4 again", r.begin(0, 1, Integer.MIN_VALUE), true);
        due("4 the later one holds", r.extreme(1, 1), Integer.MIN_VALUE);
        due("4 again", r.begin(1, 1, Integer.MAX_VALUE), true);
        due("4 the later one holds", r.accumulator(1, 1), Integer.MAX_VALUE);
        due("4 steps come after", r.step(1, STORE, 1), 0);
        due("4 stored", r.extreme(1, 0), Integer.MAX_VALUE);
    }

    private static void length() {
        ScheduleReducer r = with(steps(PLUS, 0), steps(), steps(LOAD, 0, LOAD, 0, LOAD, 0, LOAD, 0));
        due("5 length 0", r.length(0), 1);
        due("5 length 1", r.length(1), 0);
        due("5 length 2", r.length(2), 4);
        for (int t : OUTSIDE) {
            due("5 no such thread", r.length(t), ScheduleReducer.NONE);
        }
    }

    private static void schedules() {
        int[] four = steps(PLUS, 1, PLUS, 1, PLUS, 1, PLUS, 1);
        due("6 one thread", with(four).schedules(), 1);
        due("6 two threads", with(four, four).schedules(), 70);
        due("6 two threads, not the first", with(steps(), four, four).schedules(), 70);
        due("6 the most there are", with(four, four, four).schedules(), 34650);
        due("6 a step each", with(steps(LOAD, 0), steps(STORE, 0), steps(SWAP, 0)).schedules(), 6);
    }

    private static void schedulesWithLocks() {
        int[] guarded = steps(TAKE, 0, GIVE, 0);
        due("6 two guarded", with(guarded, guarded).schedules(), 2);
        due("6 three guarded", with(guarded, guarded, guarded).schedules(), 6);
        due("6 two locks", with(guarded, steps(TAKE, 1, GIVE, 1)).schedules(), 6);
        due("6 its own lock", with(steps(TAKE, 0, TAKE, 0, GIVE, 0)).schedules(), 1);
        due("6 never given", with(steps(TAKE, 1), steps(TAKE, 1, PLUS, 1)).schedules(), 2);
        // Another thread's GIVE does not free the lock: it only stands somewhere among the first one's turns.
        due("6 another's GIVE", with(steps(TAKE, 0), steps(GIVE, 0)).schedules(), 2);
        due("6 another's GIVE frees nothing", with(steps(TAKE, 0, TAKE, 0), steps(GIVE, 0)).schedules(), 2);
    }

    private static void classes() {
        int[] four = steps(PLUS, 1, PLUS, 1, PLUS, 1, PLUS, 1);
        due("7 nothing touches", with(four, four, four).classes(), 1);
        int[] swaps = steps(SWAP, 0, SWAP, 0, SWAP, 0, SWAP, 0);
        due("7 all touch", with(swaps, swaps, swaps).classes(), 34650);
        due("7 LOAD LOAD", with(steps(LOAD, 0), steps(LOAD, 0)).classes(), 1);
        due("7 other variables", with(steps(STORE, 0), steps(STORE, 1)).classes(), 1);
        int[][] pairs = {{LOAD, STORE}, {LOAD, SWAP}, {STORE, LOAD}, {STORE, STORE}, {STORE, SWAP}, {SWAP, LOAD}, {SWAP, STORE}, {SWAP, SWAP}};
        for (int[] pair : pairs) {
            due("7 " + pair[0] + " and " + pair[1], with(steps(pair[0], 2), steps(pair[1], 2)).classes(), 2);
            due("7 apart", with(steps(pair[0], 2), steps(pair[1], 1)).classes(), 1);
        }
        due("7 PLUS has no variable", with(steps(PLUS, 0), steps(STORE, 0)).classes(), 1);
        due("7 PLUS has no lock", with(steps(PLUS, 1), steps(TAKE, 1)).classes(), 1);
        due("7 a lock is no variable", with(steps(TAKE, 0), steps(STORE, 0)).classes(), 1);
        due("7 a variable is no lock", with(steps(SWAP, 1), steps(GIVE, 1)).classes(), 1);
        // The store of 0 has three places among the two of 1; thread 2 stays apart.
        due("7 two against one", with(steps(STORE, 0), steps(STORE, 0, STORE, 0), steps(STORE, 1)).classes(), 3);
        // A step of the same thread is never passed, though it touches nothing.
        due("7 own steps keep their order", with(steps(STORE, 0, PLUS, 1, STORE, 0), steps(STORE, 0)).classes(), 3);
    }

    private static void classesOfLockSteps() {
        due("7 TAKE TAKE", with(steps(TAKE, 0), steps(TAKE, 0)).classes(), 2);
        due("7 TAKE GIVE", with(steps(TAKE, 0), steps(GIVE, 0)).classes(), 2);
        due("7 GIVE TAKE", with(steps(GIVE, 1), steps(TAKE, 1)).classes(), 2);
        due("7 GIVE GIVE", with(steps(GIVE, 1), steps(GIVE, 1)).classes(), 2);
        due("7 other locks", with(steps(TAKE, 0), steps(GIVE, 1)).classes(), 1);
        due("7 guarded", with(steps(TAKE, 0, GIVE, 0), steps(TAKE, 0, GIVE, 0)).classes(), 2);
        // One of three gets the lock, the others wait for ever: the classes are of stuck schedules.
        due("7 stuck ones count", with(steps(TAKE, 0), steps(TAKE, 0), steps(TAKE, 0)).classes(), 3);
    }

    private static void canStick() {
        due("8 no locks", with(steps(LOAD, 0, STORE, 0), steps(SWAP, 0)).canStick(), false);
        due("8 its own lock", with(steps(TAKE, 0, TAKE, 0)).canStick(), true);
        due("8 only the second thread", with(steps(), steps(TAKE, 1, TAKE, 1)).canStick(), true);
        due("8 only the last thread", with(steps(), steps(), steps(TAKE, 1, TAKE, 1)).canStick(), true);
        due("8 given back between", with(steps(TAKE, 0, GIVE, 0, TAKE, 0)).canStick(), false);
        due("8 ends with the lock", with(steps(TAKE, 0)).canStick(), false);
        due("8 the other waits for ever", with(steps(TAKE, 0), steps(TAKE, 0)).canStick(), true);
        due("8 in the other thread", with(steps(), steps(TAKE, 1, GIVE, 1), steps(TAKE, 1)).canStick(), true);
        due("8 GIVE of the other lock", with(steps(TAKE, 0, GIVE, 1, TAKE, 0)).canStick(), true);
        due("8 GIVE by another", with(steps(TAKE, 0, PLUS, 1, TAKE, 0), steps(GIVE, 0)).canStick(), true);
        int[] oneWay = steps(TAKE, 0, TAKE, 1, GIVE, 1, GIVE, 0);
        int[] otherWay = steps(TAKE, 1, TAKE, 0, GIVE, 0, GIVE, 1);
        due("8 same order", with(oneWay, oneWay, oneWay).canStick(), false);
        due("8 crossed", with(oneWay, otherWay).canStick(), true);
        due("8 crossed, last threads", with(steps(), oneWay, otherWay).canStick(), true);
    }

    private static void canEnd() {
        ScheduleReducer r = with(steps(STORE, 1), steps(STORE, 1), steps(LOAD, 1, STORE, 2));
        r.begin(1, 0, 5);
        r.begin(1, 1, -6);
        r.begin(0, 1, 8);
        due("9 the first store last", r.canEnd(1, 5), true);
        due("9 the second store last", r.canEnd(1, -6), true);
        due("9 always stored over", r.canEnd(1, 8), false);
        due("9 copied before", r.canEnd(2, 8), true);
        due("9 copied after", r.canEnd(2, -6), true);
        due("9 never 0", r.canEnd(2, 0), false);
        due("9 untouched", r.canEnd(0, 0), true);
        for (int x : OUTSIDE) {
            due("9 no such variable", r.canEnd(x, 0), false);
            due("9 no such variable", r.canEnd(x, 5), false);
        }
        // Only complete schedules count, and a stuck one is complete.
        ScheduleReducer s = with(steps(TAKE, 0, STORE, 0), steps(TAKE, 0, STORE, 0));
        s.begin(1, 0, 1);
        s.begin(1, 1, 2);
        due("9 not before the end", s.canEnd(0, 0), false);
        due("9 stuck with 1", s.canEnd(0, 1), true);
        due("9 stuck with 2", s.canEnd(0, 2), true);
    }

    private static void canEndBoth() {
        ScheduleReducer r = with(steps(STORE, 0, STORE, 1), steps(STORE, 1, STORE, 0));
        r.begin(1, 0, 1);
        r.begin(1, 1, 2);
        due("10 1 1", r.canEndBoth(0, 1, 1, 1), true);
        due("10 2 2", r.canEndBoth(0, 2, 1, 2), true);
        due("10 crossed", r.canEndBoth(0, 2, 1, 1), true);
        // 1 in variable 0 and 2 in variable 1 would need each thread's last store before the other's first.
        due("10 each alone but not both", r.canEndBoth(0, 1, 1, 2), false);
        due("10 the same with the variables exchanged", r.canEndBoth(1, 2, 0, 1), false);
        due("10 crossed, exchanged", r.canEndBoth(1, 1, 0, 2), true);
        due("10 one variable, one value", r.canEndBoth(0, 2, 0, 2), true);
        due("10 one variable, two values", r.canEndBoth(0, 1, 0, 2), false);
        due("10 the second is wrong", r.canEndBoth(0, 1, 2, 1), false);
        due("10 the first is wrong", r.canEndBoth(2, 1, 0, 1), false);
        due("10 untouched", r.canEndBoth(0, 1, 2, 0), true);
        for (int x : OUTSIDE) {
            due("10 no such first", r.canEndBoth(x, 0, 2, 0), false);
            due("10 no such second", r.canEndBoth(2, 0, x, 0), false);
            due("10 neither", r.canEndBoth(x, 0, x, 0), false);
        }
    }

    private static void extreme() {
        ScheduleReducer r = with(steps(STORE, 0), steps(STORE, 0), steps(STORE, 0));
        r.begin(0, 0, 1000);
        r.begin(1, 0, 7);
        r.begin(1, 1, -3);
        r.begin(1, 2, 4);
        due("11 least", r.extreme(0, 0), -3);
        due("11 greatest", r.extreme(0, 1), 7);
        r.begin(0, 2, -8);
        due("11 least of a fixed one", r.extreme(2, 0), -8);
        due("11 greatest of a fixed one", r.extreme(2, 1), -8);
        r.begin(1, 0, Integer.MAX_VALUE);
        r.begin(1, 1, Integer.MIN_VALUE);
        due("11 least int", r.extreme(0, 0), Integer.MIN_VALUE);
        due("11 greatest int", r.extreme(0, 1), Integer.MAX_VALUE);
        for (int x : OUTSIDE) {
            due("11 no such variable", r.extreme(x, 0), 0);
            due("11 no such variable", r.extreme(x, 1), 0);
        }
        for (int what : NO_SIDE) {
            due("11 no such what", r.extreme(0, what), 0);
            due("11 no such what", r.extreme(2, what), 0);
        }
    }

    private static void accumulator() {
        ScheduleReducer r = with(steps(LOAD, 0), steps(STORE, 0), steps(STORE, 0));
        r.begin(0, 0, 3);
        r.begin(1, 0, 1000);
        r.begin(1, 1, 9);
        r.begin(1, 2, -9);
        due("12 least", r.accumulator(0, 0), -9);
        due("12 greatest", r.accumulator(0, 1), 9);
        due("12 fixed", r.accumulator(1, 0), 9);
        due("12 fixed", r.accumulator(2, 1), -9);
        for (int t : OUTSIDE) {
            due("12 no such thread", r.accumulator(t, 0), 0);
            due("12 no such thread", r.accumulator(t, 1), 0);
        }
        for (int what : NO_SIDE) {
            due("12 no such what", r.accumulator(1, what), 0);
            due("12 no such what", r.accumulator(2, what), 0);
        }
        // The thread that gets no lock stays at its beginning.
        ScheduleReducer s = with(steps(TAKE, 1, PLUS, 4), steps(TAKE, 1, PLUS, 5));
        due("12 stuck before PLUS", s.accumulator(0, 0), 0);
        due("12 past the lock", s.accumulator(0, 1), 4);
        due("12 stuck before PLUS", s.accumulator(1, 0), 0);
        due("12 past the lock", s.accumulator(1, 1), 5);
    }

    private static void races() {
        ScheduleReducer r = with(steps(STORE, 0, STORE, 1), steps(STORE, 0, LOAD, 1), steps(LOAD, 0, STORE, 2));
        due("13 all 0", r.races(0), false);
        r.begin(1, 0, 1);
        due("13 two stores", r.races(0), true);
        due("13 one store", r.races(1), false);
        due("13 a copy", r.races(2), true);
        r.begin(1, 1, 1);
        due("13 equal stores", r.races(0), false);
        due("13 copy of the beginning or of a store", r.races(2), true);
        for (int x : OUTSIDE) {
            due("13 no such variable", r.races(x), false);
        }
        ScheduleReducer s = with(steps(TAKE, 0, STORE, 0), steps(TAKE, 0));
        s.begin(1, 0, 1);
        due("13 stuck before the store", s.races(0), true);
    }

    private static void eachStepKind() {
        ScheduleReducer r = new ScheduleReducer();
        r.begin(0, 1, 11);
        r.begin(1, 2, 22);
        due("LOAD", r.step(2, LOAD, 1), 0);
        due("LOAD accumulator", r.accumulator(2, 0), 11);
        due("LOAD variable", r.extreme(1, 0), 11);
        r.drop(2);
        due("STORE", r.step(2, STORE, 1), 0);
        due("STORE accumulator", r.accumulator(2, 0), 22);
        due("STORE variable", r.extreme(1, 0), 22);
        r.drop(2);
        due("SWAP", r.step(2, SWAP, 1), 0);
        due("SWAP accumulator", r.accumulator(2, 0), 22 - 11);
        due("SWAP variable", r.extreme(1, 0), 22);
        r.drop(2);
        due("PLUS", r.step(2, PLUS, Integer.MAX_VALUE), 0);
        due("PLUS wraps", r.accumulator(2, 0), Integer.MIN_VALUE + 21);
        due("PLUS variable", r.extreme(1, 0), 11);
        r.drop(2);
        due("PLUS", r.step(2, PLUS, -23), 0);
        due("PLUS below 0", r.accumulator(2, 1), -1);
        r.drop(2);
        due("TAKE", r.step(2, TAKE, 1), 0);
        due("TAKE accumulator", r.accumulator(2, 0), 22);
        due("TAKE variable", r.extreme(1, 0), 11);
    }

    private static void questionsChangeNothing() {
        ScheduleReducer r = with(steps(TAKE, 0, SWAP, 1, GIVE, 0), steps(TAKE, 0, SWAP, 1, TAKE, 0), steps(SWAP, 1));
        r.begin(1, 0, 1);
        r.begin(1, 1, 2);
        int schedules = r.schedules();
        int classes = r.classes();
        for (int again = 0; again < 3; again++) {
            due("again canStick", r.canStick(), true);
            due("again canEnd", r.canEnd(1, 0), true);
            due("again races", r.races(1), true);
            due("again extreme", r.extreme(1, 1), 2);
            due("again accumulator", r.accumulator(2, 1), 2);
            due("again canEndBoth", r.canEndBoth(0, 0, 1, 2), true);
            due("again schedules", r.schedules(), schedules);
            due("again classes", r.classes(), classes);
            due("again length", r.length(1), 3);
        }
    }

    private static void objectsAreApart() {
        ScheduleReducer one = with(steps(PLUS, 1));
        ScheduleReducer other = with(steps(PLUS, 2, PLUS, 3));
        due("apart length", one.length(0), 1);
        due("apart accumulator", one.accumulator(0, 0), 1);
        due("apart other", other.accumulator(0, 0), 5);
    }

    private static void readmeExample() {
        int[] addOne = steps(LOAD, 0, PLUS, 1, STORE, 0);
        ScheduleReducer r = with(addOne, addOne);
        due("README schedules", r.schedules(), 20);
        due("README classes", r.classes(), 4);
        due("README canEnd", r.canEnd(0, 1), true);
        due("README extreme", r.extreme(0, 1), 2);
        due("README races", r.races(0), true);
    }
}
