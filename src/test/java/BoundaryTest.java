import java.util.ArrayList;
import java.util.List;

/**
 * One test for each sentence of the document that names a boundary case. A test is told with the sentence's words,
 * and no object in it has more than 512 calls.
 */
public final class BoundaryTest {
    private static final int NONE = -1;
    private static final int FULL = -2;
    private static final int LOAD = 0;
    private static final int STORE = 1;
    private static final int SWAP = 2;
    private static final int PLUS = 3;
    private static final int TAKE = 4;
    private static final int GIVE = 5;
    private static final int LEAST = Integer.MIN_VALUE;
    private static final int GREATEST = Integer.MAX_VALUE;

    private static String sentence = "";
    private static int tests = 0;
    private static int wrong = 0;

    public static void main(String[] args) {
        whatItIs();
        termsOfSteps();
        termsOfSchedules();
        termsOfClasses();
        promisesOfChanges();
        promisesOfCounts();
        promisesOfEnds();
        System.out.println(tests + " sentences, " + wrong + " answers that are not as due");
        if (wrong != 0) {
            System.exit(1);
        }
    }

    private static void whatItIs() {
        test("used for at most 512 calls: the 512th still answers", BoundaryTest::call512);
        test("used for at most 512 calls: 512 changes", BoundaryTest::changes512);
        test("used for at most 512 calls: 511 refused calls spoil nothing", BoundaryTest::refused512);
    }

    private static void termsOfSteps() {
        test("Terms: accumulators and variables are ints", BoundaryTest::wholeRangeOfInts);
        test("Terms: PLUS n, any int", BoundaryTest::plusAnyInt);
        test("Terms: PLUS wraps", BoundaryTest::plusWraps);
        test("Terms: TAKE l waits until lock l is free", BoundaryTest::takeWaits);
        test("Terms: GIVE l, otherwise nothing happens: the lock is free", BoundaryTest::giveOfFreeLock);
        test("Terms: GIVE l, otherwise nothing happens: another holds it", BoundaryTest::giveOfAnothersLock);
        test("Terms: GIVE l, otherwise nothing happens: the other lock is held", BoundaryTest::giveOfOtherLock);
    }

    private static void termsOfSchedules() {
        test("Terms: begins with variables and accumulators at their beginnings", BoundaryTest::beginsAtBeginnings);
        test("Terms: begins with all locks free", BoundaryTest::beginsWithFreeLocks);
        test("Terms: a thread whose steps are all done can't have a turn", BoundaryTest::doneThreads);
        test("Terms: waits for a lock that is held, by itself too", BoundaryTest::heldByItself);
        test("Terms: complete when no thread can have a turn: the empty schedule", BoundaryTest::emptySchedule);
        test("Terms: stuck when some thread is not done then", BoundaryTest::stuckThreads);
    }

    private static void termsOfClasses() {
        test("Terms: steps of the same variable touch", BoundaryTest::touchSameVariable);
        test("Terms: and not both LOAD", BoundaryTest::touchNotBothLoad);
        test("Terms: or both are TAKE or GIVE of the same lock", BoundaryTest::touchSameLock);
        test("Terms: two steps of different threads", BoundaryTest::ownStepsKeepOrder);
        test("Terms: exchanging, again and again", BoundaryTest::exchangingAgainAndAgain);
    }

    private static void promisesOfChanges() {
        test("1: no steps", BoundaryTest::newHasNoSteps);
        test("1: all beginnings 0", BoundaryTest::newBeginsWithZeros);
        test("2: answers its place, 0 the first", BoundaryTest::stepPlaces);
        test("2: NONE when t is not 0 .. 2", BoundaryTest::stepWrongThread);
        test("2: NONE when kind is not 0 .. 5", BoundaryTest::stepWrongKind);
        test("2: NONE when n is not 0 .. 2 for LOAD, STORE and SWAP", BoundaryTest::stepWrongVariable);
        test("2: NONE when n is not 0 or 1 for TAKE and GIVE", BoundaryTest::stepWrongLock);
        test("2: FULL when the thread has four", BoundaryTest::stepFull);
        test("2: FULL when the thread has four: a drop makes room", BoundaryTest::stepAfterFull);
        test("3: takes the last step away and answers how many are left", BoundaryTest::dropToNothing);
        test("3: NONE when t is not 0 .. 2", BoundaryTest::dropWrongThread);
        test("3: NONE when it has none", BoundaryTest::dropOfNothing);
        test("4: answers true, for any value", BoundaryTest::beginAnyValue);
        test("4: false, changing nothing, when x is not 0 .. 2", BoundaryTest::beginWrongPlace);
        test("4: false, changing nothing, when what is not 0 or 1", BoundaryTest::beginWrongWhat);
        test("5: the number of steps of thread t", BoundaryTest::lengthFromNoneToFour);
        test("5: NONE when t is not 0 .. 2", BoundaryTest::lengthWrongThread);
        test("14: NONE is tested before FULL", BoundaryTest::noneBeforeFull);
    }

    private static void promisesOfCounts() {
        test("6: the number of complete schedules: the fewest", BoundaryTest::fewestSchedules);
        test("6: the number of complete schedules: the most", BoundaryTest::mostSchedules);
        test("6: the number of complete schedules: stuck ones of different lengths", BoundaryTest::stuckSchedules);
        test("7: the number of classes: the fewest", BoundaryTest::fewestClasses);
        test("7: the number of classes: the most", BoundaryTest::mostClasses);
        test("7: the number of classes: stuck ones count", BoundaryTest::stuckClasses);
        test("8: some complete schedule is stuck: just one of many", BoundaryTest::oneStuckOfMany);
    }

    private static void promisesOfEnds() {
        test("9: after some complete schedule: just one of many", BoundaryTest::canEndAfterOneOfMany);
        test("9: after a complete schedule, not before it is complete", BoundaryTest::canEndOnlyWhenComplete);
        test("9: false when x is not 0 .. 2", BoundaryTest::canEndWrongVariable);
        test("10: x is v and y is w after the same schedule", BoundaryTest::canEndBothAtOnce);
        test("10: x and y may be the same", BoundaryTest::canEndBothOfOneVariable);
        test("10: false when x is not 0 .. 2", BoundaryTest::canEndBothWrongFirst);
        test("10: false when y is not 0 .. 2", BoundaryTest::canEndBothWrongSecond);
        test("11: the least or greatest value, over all ints", BoundaryTest::extremeOverAllInts);
        test("11: the least or greatest value, all on one side of 0", BoundaryTest::extremeOnOneSide);
        test("11: 0 when x is not 0 .. 2", BoundaryTest::extremeWrongVariable);
        test("11: 0 when what is not 0 or 1", BoundaryTest::extremeWrongWhat);
        test("12: the least or greatest value, over all ints", BoundaryTest::accumulatorOverAllInts);
        test("12: the least or greatest value, all on one side of 0", BoundaryTest::accumulatorOnOneSide);
        test("12: 0 when t is not 0 .. 2", BoundaryTest::accumulatorWrongThread);
        test("12: 0 when what is not 0 or 1", BoundaryTest::accumulatorWrongWhat);
        test("13: different values: after just one of many schedules", BoundaryTest::racesInOneOfMany);
        test("13: different values, not different ways to the same one", BoundaryTest::racesNotWithOneValue);
        test("13: false when x is not 0 .. 2", BoundaryTest::racesWrongVariable);
    }

    private static void test(String words, Runnable body) {
        sentence = words;
        tests++;
        try {
            body.run();
        } catch (RuntimeException e) {
            wrong++;
            System.out.println(sentence + ": a call threw " + e);
        }
    }

    private static void due(String call, Object got, Object want) {
        if (!got.equals(want)) {
            wrong++;
            System.out.println(sentence + ": " + call + " answered " + got + ", due is " + want);
        }
    }

    /** One row for each thread: kind, operand, kind, operand, ... */
    private static ScheduleReducer with(int[]... threads) {
        ScheduleReducer r = new ScheduleReducer();
        for (int t = 0; t < threads.length; t++) {
            for (int i = 0; i < threads[t].length; i += 2) {
                due("step of a program", r.step(t, threads[t][i], threads[t][i + 1]), i / 2);
            }
        }
        return r;
    }

    private static int[] steps(int... kindsAndOperands) {
        return kindsAndOperands;
    }

    private static int[] four(int kind, int n) {
        return steps(kind, n, kind, n, kind, n, kind, n);
    }

    /** A program in which every variable and accumulator races, has no 0 among its values, and a thread has room. */
    private static ScheduleReducer busy() {
        ScheduleReducer r = with(
                steps(TAKE, 0, STORE, 0, SWAP, 1, GIVE, 0),
                steps(TAKE, 0, SWAP, 0, STORE, 2),
                steps(SWAP, 0, SWAP, 2, STORE, 1));
        for (int i = 0; i < 3; i++) {
            r.begin(0, i, 10 + i);
            r.begin(1, i, 20 + i);
        }
        return r;
    }

    /** Everything that the object tells of itself, in 27 calls. */
    private static List<Object> answers(ScheduleReducer r) {
        List<Object> all = new ArrayList<>(List.of(r.schedules(), r.classes(), r.canStick()));
        for (int i = 0; i < 3; i++) {
            all.add(r.length(i));
            all.add(r.races(i));
            all.add(r.canEnd(i, 21));
            all.add(r.canEndBoth(i, 21, (i + 1) % 3, 22));
            for (int what = 0; what < 2; what++) {
                all.add(r.extreme(i, what));
                all.add(r.accumulator(i, what));
            }
        }
        return all;
    }

    /** Numbers that are not least .. greatest: the nearest ones, those that wrap into it, and the farthest. */
    private static int[] outside(int least, int greatest) {
        return new int[] {least - 1, least - 2, least - 3, greatest + 1, greatest + 2, greatest + 3, greatest + 4,
            least + 256, least + 65536, greatest + LEAST, LEAST, LEAST + 1, GREATEST, GREATEST - 1};
    }

    // What it is

    private static void call512() {
        ScheduleReducer r = with(four(SWAP, 0), four(SWAP, 1), four(STORE, 0));
        for (int call = 13; call <= 512; call += 5) {
            due("schedules", r.schedules(), 34650);
            due("length", r.length(2), 4);
            due("step", r.step(2, STORE, 0), FULL);
            due("begin", r.begin(0, 2, call), true);
            due("extreme of call " + (call + 4), r.extreme(2, 1), call);
        }
    }

    private static void changes512() {
        ScheduleReducer r = new ScheduleReducer();
        for (int call = 1; call < 509; call += 4) {
            due("step", r.step(0, PLUS, 1000), 0);
            due("step", r.step(0, PLUS, 1), 1);
            due("drop", r.drop(0), 1);
            due("drop", r.drop(0), 0);
        }
        due("call 509", r.step(0, PLUS, 5), 0);
        due("call 510", r.length(0), 1);
        due("call 511", r.accumulator(0, 1), 5);
        due("call 512", r.classes(), 1);
    }

    private static void refused512() {
        ScheduleReducer r = new ScheduleReducer();
        for (int call = 1; call < 512; call += 7) {
            due("step", r.step(0, TAKE, 2), NONE);
            due("drop", r.drop(0), NONE);
            due("begin", r.begin(2, 0, call), false);
            due("length", r.length(3), NONE);
            due("canEnd", r.canEnd(3, 0), false);
            due("extreme", r.extreme(0, 2), 0);
            due("races", r.races(-1), false);
        }
        due("call 512", r.step(0, TAKE, 1), 0);
    }

    // Terms

    private static void wholeRangeOfInts() {
        for (int value : new int[] {LEAST, LEAST + 1, -65537, -1, 0, 1, 65536, GREATEST - 1, GREATEST}) {
            ScheduleReducer r = with(steps(LOAD, 0, STORE, 1, SWAP, 2));
            r.begin(0, 0, value);
            due("begin of variable 2", r.begin(0, 2, ~value), true);
            due("loaded and stored", r.canEndBoth(1, value, 0, value), true);
            due("swapped into the variable", r.canEnd(2, value), true);
            due("swapped into the accumulator", r.accumulator(0, 0), ~value);
        }
    }

    private static void plusAnyInt() {
        for (int n : new int[] {LEAST, LEAST + 1, -3, -2, -1, 0, 1, 2, 3, 4, 5, 6, GREATEST - 1, GREATEST}) {
            ScheduleReducer r = new ScheduleReducer();
            due("step(1, PLUS, " + n + ")", r.step(1, PLUS, n), 0);
            due("PLUS " + n, r.accumulator(1, 0), n);
            due("PLUS leaves other accumulators", r.accumulator(0, 1), 0);
        }
    }

    private static void plusWraps() {
        int[][] sums = {{GREATEST, 1, LEAST}, {LEAST, -1, GREATEST}, {GREATEST, GREATEST, -2}, {LEAST, LEAST, 0},
            {-1, LEAST, GREATEST}, {1, GREATEST, LEAST}, {GREATEST, LEAST, -1}};
        for (int[] sum : sums) {
            ScheduleReducer r = with(steps(PLUS, sum[1], STORE, 2));
            r.begin(1, 0, sum[0]);
            due(sum[0] + " PLUS " + sum[1], r.accumulator(0, 0), sum[2]);
            due("stored " + sum[0] + " PLUS " + sum[1], r.extreme(2, 1), sum[2]);
            due("canEnd with it", r.canEnd(2, sum[2]), true);
        }
        due("4 times a half wraps twice", with(four(PLUS, 1 << 30)).accumulator(0, 1), 0);
    }

    private static void takeWaits() {
        // After the first TAKE the other thread has its turn again only after GIVE, at two places there.
        ScheduleReducer r = with(steps(TAKE, 0, PLUS, 1, GIVE, 0, PLUS, 1), steps(TAKE, 0));
        due("schedules", r.schedules(), 3);
        ScheduleReducer s = with(steps(TAKE, 0, PLUS, 1, GIVE, 0, PLUS, 1), steps(TAKE, 1));
        due("schedules with another lock", s.schedules(), 5);
        // All that the threads do stands between TAKE and GIVE, so they can only come one after another.
        int[] guarded = steps(TAKE, 1, LOAD, 0, STORE, 0, GIVE, 1);
        due("guarded schedules", with(guarded, guarded, guarded).schedules(), 6);
    }

    private static void giveOfFreeLock() {
        due("never taken", with(steps(GIVE, 0, TAKE, 0)).canStick(), false);
        due("given twice", with(steps(TAKE, 1, GIVE, 1, GIVE, 1, TAKE, 1)).canStick(), false);
        due("an early GIVE does not count later", with(steps(GIVE, 0, TAKE, 0, TAKE, 0)).canStick(), true);
        due("it has its turn", with(steps(GIVE, 0), steps(GIVE, 0)).schedules(), 2);
        ScheduleReducer r = with(steps(GIVE, 1, PLUS, 3));
        due("and the thread goes on", r.accumulator(0, 0), 3);
    }

    private static void giveOfAnothersLock() {
        for (int lock = 0; lock < 2; lock++) {
            int[] giver = steps(GIVE, lock);
            ScheduleReducer r = with(giver, steps(TAKE, lock, TAKE, lock, PLUS, 1), giver);
            due("it stays held", r.accumulator(1, 1), 0);
            due("the GIVEs have their turns", r.schedules(), 6);
        }
        // Its second GIVE may come while the other thread holds the lock.
        ScheduleReducer r = with(steps(TAKE, 0, GIVE, 0, GIVE, 0), steps(TAKE, 0, TAKE, 0, PLUS, 1));
        due("it held the lock before", r.accumulator(1, 1), 0);
    }

    private static void giveOfOtherLock() {
        due("GIVE 1 leaves lock 0", with(steps(TAKE, 0, GIVE, 1, TAKE, 0)).canStick(), true);
        due("GIVE 0 leaves lock 1", with(steps(TAKE, 1, GIVE, 0, TAKE, 1)).canStick(), true);
        due("both held, one given", with(steps(TAKE, 0, TAKE, 1, GIVE, 0, TAKE, 0)).canStick(), false);
        due("both held, the other given", with(steps(TAKE, 0, TAKE, 1, GIVE, 1, TAKE, 0)).canStick(), true);
    }

    private static void beginsAtBeginnings() {
        ScheduleReducer r = with(steps(PLUS, 1, STORE, 0), steps(LOAD, 0, PLUS, 1, STORE, 0));
        for (int again = 0; again < 3; again++) {
            due("accumulator", r.accumulator(0, 1), 1);
            due("variable", r.extreme(0, 1), 2);
        }
        r.begin(1, 0, 100);
        due("a later beginning", r.accumulator(0, 0), 101);
        due("the others are as before", r.extreme(1, 0), 0);
    }

    private static void beginsWithFreeLocks() {
        ScheduleReducer r = with(steps(TAKE, 0, TAKE, 1));
        for (int again = 0; again < 3; again++) {
            due("canStick", r.canStick(), false);
            due("schedules", r.schedules(), 1);
        }
        due("step", r.step(1, TAKE, 1), 0);
        due("now one of two schedules sticks", r.canStick(), true);
        r.drop(0);
        due("no more", r.canStick(), false);
    }

    private static void doneThreads() {
        due("threads of 4, 0 and 0 steps", with(four(PLUS, 1)).schedules(), 1);
        due("threads of 0, 0 and 4 steps", with(steps(), steps(), four(PLUS, 1)).schedules(), 1);
        due("threads of 4, 1 and 0 steps", with(four(PLUS, 1), steps(PLUS, 1)).schedules(), 5);
        due("threads of 1, 0 and 1 steps", with(steps(PLUS, 1), steps(), steps(PLUS, 1)).schedules(), 2);
        ScheduleReducer r = with(four(PLUS, 1), steps(PLUS, 1));
        r.drop(0);
        due("a dropped step is not carried out", r.accumulator(0, 1), 3);
        due("threads of 3, 1 and 0 steps", r.schedules(), 4);
    }

    private static void heldByItself() {
        for (int lock = 0; lock < 2; lock++) {
            ScheduleReducer r = with(steps(), steps(TAKE, lock, TAKE, lock, GIVE, lock, PLUS, 1));
            due("canStick", r.canStick(), true);
            due("it is the only schedule", r.schedules(), 1);
            due("no step after it", r.accumulator(1, 1), 0);
        }
        due("twice with GIVE between", with(steps(TAKE, 0, GIVE, 0, TAKE, 0, GIVE, 0)).canStick(), false);
        due("a done thread holds on", with(steps(TAKE, 0), steps(TAKE, 0)).canStick(), true);
    }

    private static void emptySchedule() {
        ScheduleReducer r = new ScheduleReducer();
        r.begin(0, 1, 7);
        r.begin(1, 1, 8);
        due("schedules", r.schedules(), 1);
        due("classes", r.classes(), 1);
        due("canStick", r.canStick(), false);
        due("canEnd", r.canEnd(1, 7), true);
        due("canEndBoth", r.canEndBoth(1, 7, 2, 0), true);
        due("extreme", r.extreme(1, 0), 7);
        due("accumulator", r.accumulator(1, 1), 8);
        due("races", r.races(1), false);
    }

    private static void stuckThreads() {
        for (int t = 0; t < 3; t++) {
            ScheduleReducer r = new ScheduleReducer();
            r.step(t, TAKE, 0);
            due("all done, though a lock is held", r.canStick(), false);
            r.step(t, TAKE, 0);
            due("thread " + t + " alone is not done", r.canStick(), true);
            r.step((t + 1) % 3, PLUS, 1);
            due("though another thread is done", r.canStick(), true);
            r.drop(t);
            due("all done again", r.canStick(), false);
        }
    }

    private static void touchSameVariable() {
        for (int one = LOAD; one <= SWAP; one++) {
            for (int x = 0; x < 3; x++) {
                for (int y = 0; y < 3; y++) {
                    int classes = with(steps(STORE, x), steps(), steps(one, y)).classes();
                    due("STORE " + x + " and kind " + one + " of " + y, classes, x == y ? 2 : 1);
                }
            }
        }
        due("PLUS 2 has no variable", with(steps(PLUS, 2), steps(SWAP, 2)).classes(), 1);
        due("PLUS has neither", with(steps(PLUS, 1), steps(PLUS, 1), steps(PLUS, 1)).classes(), 1);
    }

    private static void touchNotBothLoad() {
        due("LOAD and LOAD", with(steps(LOAD, 2), steps(LOAD, 2), steps(LOAD, 2)).classes(), 1);
        due("LOAD and STORE", with(steps(LOAD, 2), steps(STORE, 2)).classes(), 2);
        due("STORE and LOAD", with(steps(STORE, 2), steps(LOAD, 2)).classes(), 2);
        due("LOAD and SWAP", with(steps(LOAD, 2), steps(SWAP, 2)).classes(), 2);
        due("SWAP and LOAD", with(steps(SWAP, 2), steps(LOAD, 2)).classes(), 2);
        // Each of two LOADs is before or after the STORE.
        due("two LOADs and a STORE", with(steps(LOAD, 2), steps(LOAD, 2), steps(STORE, 2)).classes(), 4);
    }

    private static void touchSameLock() {
        for (int l = 0; l < 2; l++) {
            for (int m = 0; m < 2; m++) {
                int due = l == m ? 2 : 1;
                due("TAKE " + l + " and TAKE " + m, with(steps(TAKE, l), steps(TAKE, m)).classes(), due);
                due("TAKE " + l + " and GIVE " + m, with(steps(TAKE, l), steps(GIVE, m)).classes(), due);
                due("GIVE " + l + " and TAKE " + m, with(steps(GIVE, l), steps(TAKE, m)).classes(), due);
                due("GIVE " + l + " and GIVE " + m, with(steps(GIVE, l), steps(GIVE, m)).classes(), due);
            }
            for (int kind = LOAD; kind <= PLUS; kind++) {
                due("TAKE " + l + " and kind " + kind, with(steps(TAKE, l), steps(kind, l)).classes(), 1);
                due("kind " + kind + " and GIVE " + l, with(steps(kind, l), steps(GIVE, l)).classes(), 1);
            }
        }
    }

    private static void ownStepsKeepOrder() {
        due("one thread", with(steps(STORE, 0, STORE, 1, TAKE, 0, PLUS, 1)).classes(), 1);
        // The PLUS of thread 1 holds its STOREs apart, so thread 0 has three places among them.
        due("a thread around another", with(steps(STORE, 0), steps(STORE, 0, PLUS, 1, STORE, 0)).classes(), 3);
        // LOAD 2 can't come before its own thread's STORE 0, which touches the other.
        due("behind its own step", with(steps(STORE, 0, LOAD, 2), steps(STORE, 0)).classes(), 2);
    }

    private static void exchangingAgainAndAgain() {
        ScheduleReducer r = with(steps(PLUS, 1, PLUS, 1), steps(LOAD, 0, LOAD, 0), steps(STORE, 1, STORE, 1));
        due("all of 90 schedules", r.schedules(), 90);
        due("are alike", r.classes(), 1);
        // The order of both STOREs of 0, and that of both STOREs of 1, can't be exchanged; all else can.
        ScheduleReducer s = with(steps(STORE, 0), steps(STORE, 0, STORE, 1), steps(STORE, 1));
        due("schedules of a chain", s.schedules(), 12);
        due("classes of a chain", s.classes(), 4);
        // The same chain, with the thread in the middle that comes last in order.
        ScheduleReducer last = with(steps(STORE, 1), steps(STORE, 0), steps(STORE, 0, STORE, 1));
        due("classes of another chain", last.classes(), 4);
    }

    // Promises 1 to 5 and 14

    private static void newHasNoSteps() {
        ScheduleReducer r = new ScheduleReducer();
        for (int t = 0; t < 3; t++) {
            due("length", r.length(t), 0);
            due("drop", r.drop(t), NONE);
            due("step", r.step(t, PLUS, 1), 0);
        }
        due("an older object's steps are not there", new ScheduleReducer().length(0), 0);
    }

    private static void newBeginsWithZeros() {
        new ScheduleReducer().begin(0, 0, 9);
        ScheduleReducer r = new ScheduleReducer();
        for (int i = 0; i < 3; i++) {
            for (int what = 0; what < 2; what++) {
                due("extreme", r.extreme(i, what), 0);
                due("accumulator", r.accumulator(i, what), 0);
            }
            due("canEnd with 0", r.canEnd(i, 0), true);
            due("canEnd with 1", r.canEnd(i, 1), false);
            due("canEnd with -1", r.canEnd(i, -1), false);
        }
    }

    private static void stepPlaces() {
        ScheduleReducer r = new ScheduleReducer();
        for (int place = 0; place < 4; place++) {
            for (int t = 2; t >= 0; t--) {
                due("place in thread " + t, r.step(t, PLUS, 1 << (place * 3 + t)), place);
            }
        }
        due("the steps of thread 0", r.accumulator(0, 0), 1 + 8 + 64 + 512);
        due("the steps of thread 1", r.accumulator(1, 0), 2 + 16 + 128 + 1024);
        due("the steps of thread 2", r.accumulator(2, 0), 4 + 32 + 256 + 2048);
        ScheduleReducer s = with(steps(PLUS, 1, STORE, 0, PLUS, 1, STORE, 1));
        due("in their order", s.canEndBoth(0, 1, 1, 2), true);
    }

    private static void stepWrongThread() {
        ScheduleReducer r = busy();
        List<Object> before = answers(r);
        for (int t : outside(0, 2)) {
            for (int kind = 0; kind < 6; kind++) {
                due("step(" + t + ", " + kind + ", 1)", r.step(t, kind, 1), NONE);
            }
        }
        due("everything after it", answers(r), before);
    }

    private static void stepWrongKind() {
        ScheduleReducer r = busy();
        List<Object> before = answers(r);
        for (int kind : outside(0, 5)) {
            for (int n = 0; n < 2; n++) {
                due("step(1, " + kind + ", " + n + ")", r.step(1, kind, n), NONE);
                due("step(2, " + kind + ", " + n + ")", r.step(2, kind, n), NONE);
            }
        }
        due("everything after it", answers(r), before);
    }

    private static void stepWrongVariable() {
        for (int kind = LOAD; kind <= SWAP; kind++) {
            ScheduleReducer r = busy();
            List<Object> before = answers(r);
            for (int n : outside(0, 2)) {
                due("step(1, " + kind + ", " + n + ")", r.step(1, kind, n), NONE);
            }
            due("everything after it", answers(r), before);
            due("variable 0", r.step(1, kind, 0), 3);
            r.drop(1);
            due("variable 2", r.step(1, kind, 2), 3);
        }
    }

    private static void stepWrongLock() {
        for (int kind = TAKE; kind <= GIVE; kind++) {
            ScheduleReducer r = busy();
            List<Object> before = answers(r);
            for (int n : outside(0, 1)) {
                due("step(1, " + kind + ", " + n + ")", r.step(1, kind, n), NONE);
            }
            due("everything after it", answers(r), before);
            due("lock 0", r.step(1, kind, 0), 3);
            r.drop(1);
            due("lock 1", r.step(1, kind, 1), 3);
        }
    }

    private static void stepFull() {
        for (int t = 0; t < 3; t++) {
            ScheduleReducer r = busy();
            while (r.length(t) < 4) {
                r.step(t, SWAP, t);
            }
            List<Object> before = answers(r);
            for (int kind = 0; kind < 6; kind++) {
                due("step(" + t + ", " + kind + ", 1)", r.step(t, kind, 1), FULL);
            }
            due("everything after it", answers(r), before);
        }
    }

    private static void stepAfterFull() {
        ScheduleReducer r = with(four(PLUS, 1), four(PLUS, 1), four(PLUS, 1));
        for (int t = 0; t < 3; t++) {
            due("full", r.step(t, PLUS, 100), FULL);
            due("drop", r.drop(t), 3);
            due("room", r.step(t, PLUS, 10), 3);
            due("full again", r.step(t, PLUS, 100), FULL);
            due("the new step is there", r.accumulator(t, 0), 13);
        }
    }

    private static void dropToNothing() {
        ScheduleReducer r = with(steps(PLUS, 1, PLUS, 2, PLUS, 4, PLUS, 8), four(PLUS, 1), four(PLUS, 1));
        for (int left = 3; left >= 0; left--) {
            due("drop", r.drop(0), left);
            due("length", r.length(0), left);
            due("the last went", r.accumulator(0, 0), (1 << left) - 1);
        }
        due("thread 1 is whole", r.length(1), 4);
        due("thread 2 is whole", r.length(2), 4);
        due("a step is the first again", r.step(0, PLUS, 5), 0);
    }

    private static void dropWrongThread() {
        ScheduleReducer r = busy();
        List<Object> before = answers(r);
        for (int t : outside(0, 2)) {
            due("drop(" + t + ")", r.drop(t), NONE);
        }
        due("everything after it", answers(r), before);
    }

    private static void dropOfNothing() {
        for (int t = 0; t < 3; t++) {
            ScheduleReducer r = busy();
            while (r.length(t) > 0) {
                r.drop(t);
            }
            List<Object> before = answers(r);
            due("drop(" + t + ")", r.drop(t), NONE);
            due("drop(" + t + ") again", r.drop(t), NONE);
            due("everything after it", answers(r), before);
            due("the next step is the first", r.step(t, GIVE, 1), 0);
        }
    }

    private static void beginAnyValue() {
        for (int value : new int[] {LEAST, -1, 0, 1, GREATEST}) {
            for (int x = 0; x < 3; x++) {
                ScheduleReducer r = new ScheduleReducer();
                due("begin(0, " + x + ", " + value + ")", r.begin(0, x, value), true);
                due("extreme", r.extreme(x, 0), value);
                due("another variable", r.extreme((x + 1) % 3, 0), 0);
                due("accumulator", r.accumulator(x, 0), 0);
                due("begin(1, " + x + ", " + value + ")", r.begin(1, x, ~value), true);
                due("accumulator", r.accumulator(x, 0), ~value);
                due("another accumulator", r.accumulator((x + 1) % 3, 0), 0);
                due("extreme", r.extreme(x, 1), value);
            }
        }
    }

    private static void beginWrongPlace() {
        ScheduleReducer r = busy();
        List<Object> before = answers(r);
        for (int x : outside(0, 2)) {
            for (int what = -1; what <= 2; what++) {
                due("begin(" + what + ", " + x + ", 99)", r.begin(what, x, 99), false);
            }
        }
        due("everything after it", answers(r), before);
    }

    private static void beginWrongWhat() {
        ScheduleReducer r = busy();
        List<Object> before = answers(r);
        for (int what : outside(0, 1)) {
            for (int x = 0; x < 3; x++) {
                due("begin(" + what + ", " + x + ", 99)", r.begin(what, x, 99), false);
            }
        }
        due("everything after it", answers(r), before);
    }

    private static void lengthFromNoneToFour() {
        for (int t = 0; t < 3; t++) {
            ScheduleReducer r = new ScheduleReducer();
            for (int steps = 0; steps < 4; steps++) {
                due("length", r.length(t), steps);
                r.step(t, TAKE, 0);
            }
            due("length when full", r.length(t), 4);
            r.step(t, TAKE, 0);
            due("length after FULL", r.length(t), 4);
            due("length of another", r.length((t + 2) % 3), 0);
        }
    }

    private static void lengthWrongThread() {
        ScheduleReducer r = busy();
        for (int t : outside(0, 2)) {
            due("length(" + t + ")", r.length(t), NONE);
        }
    }

    private static void noneBeforeFull() {
        ScheduleReducer r = with(four(PLUS, 1), four(PLUS, 1), four(PLUS, 1));
        for (int t = 0; t < 3; t++) {
            due("kind -1", r.step(t, -1, 0), NONE);
            due("kind 6", r.step(t, 6, 0), NONE);
            for (int kind = LOAD; kind <= SWAP; kind++) {
                due("kind " + kind + " of -1", r.step(t, kind, -1), NONE);
                due("kind " + kind + " of 3", r.step(t, kind, 3), NONE);
                due("kind " + kind + " of 2", r.step(t, kind, 2), FULL);
            }
            for (int kind = TAKE; kind <= GIVE; kind++) {
                due("kind " + kind + " of -1", r.step(t, kind, -1), NONE);
                due("kind " + kind + " of 2", r.step(t, kind, 2), NONE);
                due("kind " + kind + " of 1", r.step(t, kind, 1), FULL);
            }
            due("PLUS of any int", r.step(t, PLUS, LEAST), FULL);
        }
        due("thread -1", r.step(-1, PLUS, 0), NONE);
        due("thread 3", r.step(3, PLUS, 0), NONE);
    }

    // Promises 6 to 8

    private static void fewestSchedules() {
        due("no step", new ScheduleReducer().schedules(), 1);
        due("one step", with(steps(), steps(SWAP, 2)).schedules(), 1);
        due("stuck at once after the first", with(steps(TAKE, 1, TAKE, 1, TAKE, 1, TAKE, 1)).schedules(), 1);
    }

    private static void mostSchedules() {
        ScheduleReducer r = with(four(LOAD, 0), four(STORE, 0), four(SWAP, 0));
        due("4, 4 and 4 steps", r.schedules(), 34650);
        r.drop(1);
        due("4, 3 and 4 steps", r.schedules(), 11550);
        due("GIVE never waits", with(four(GIVE, 0), four(GIVE, 0), four(GIVE, 1)).schedules(), 34650);
    }

    private static void stuckSchedules() {
        // One thread gets the lock and then does all its steps; the others have no turn at all.
        ScheduleReducer r = with(steps(TAKE, 0, PLUS, 1), steps(TAKE, 0, PLUS, 1, PLUS, 1), steps(TAKE, 0));
        due("each alone", r.schedules(), 3);
        // Crossed locks: each thread first in two ways that end well, and two ways into the deadlock.
        int[] oneWay = steps(TAKE, 0, TAKE, 1, GIVE, 1, GIVE, 0);
        int[] otherWay = steps(TAKE, 1, TAKE, 0, GIVE, 0, GIVE, 1);
        due("crossed", with(oneWay, otherWay).schedules(), 6);
    }

    private static void fewestClasses() {
        due("no step", new ScheduleReducer().classes(), 1);
        due("one step", with(steps(), steps(), steps(TAKE, 0)).classes(), 1);
        due("34650 alike schedules", with(four(LOAD, 0), four(LOAD, 0), four(STORE, 1)).classes(), 1);
        due("stuck, one thread", with(steps(TAKE, 0, TAKE, 0)).classes(), 1);
    }

    private static void mostClasses() {
        due("each schedule alone", with(four(STORE, 2), four(SWAP, 2), four(STORE, 2)).classes(), 34650);
        due("with locks", with(four(GIVE, 1), four(GIVE, 1), four(GIVE, 1)).classes(), 34650);
        due("LOADs of one thread", with(four(LOAD, 0), four(STORE, 0), four(STORE, 0)).classes(), 34650);
    }

    private static void stuckClasses() {
        due("each alone", with(steps(TAKE, 0), steps(TAKE, 0), steps(TAKE, 0)).classes(), 3);
        int[] oneWay = steps(TAKE, 0, TAKE, 1, GIVE, 1, GIVE, 0);
        int[] otherWay = steps(TAKE, 1, TAKE, 0, GIVE, 0, GIVE, 1);
        due("both well and the deadlock", with(oneWay, otherWay).classes(), 3);
        // Both ways to come into the deadlock are alike, since the first TAKEs are of different locks.
        due("the deadlock alone", with(steps(TAKE, 0, TAKE, 0), steps(TAKE, 1, TAKE, 1)).classes(), 1);
    }

    private static void oneStuckOfMany() {
        ScheduleReducer r = with(steps(PLUS, 1, PLUS, 1, PLUS, 1, TAKE, 0), steps(TAKE, 0, GIVE, 0));
        due("only in the first schedule, 0000", r.canStick(), true);
        r.drop(0);
        due("none takes it for ever", r.canStick(), false);
        ScheduleReducer last = with(steps(TAKE, 0, GIVE, 0), steps(), steps(PLUS, 1, PLUS, 1, PLUS, 1, TAKE, 0));
        due("only in the last schedule, 2222", last.canStick(), true);
    }

    // Promises 9 to 13

    private static void canEndAfterOneOfMany() {
        ScheduleReducer r = with(four(PLUS, 1), steps(LOAD, 0, PLUS, 1, STORE, 0), steps(SWAP, 0));
        r.begin(1, 2, 40);
        due("thread 2 before thread 1", r.canEnd(0, 41), true);
        due("thread 2 after thread 1 or amid it", r.canEnd(0, 40), true);
        due("thread 2 amid thread 1", r.canEnd(0, 1), true);
        due("no schedule", r.canEnd(0, 0), false);
        due("no schedule", r.canEnd(0, 42), false);
        ScheduleReducer last = with(steps(STORE, 0), steps(), four(STORE, 0));
        last.begin(1, 0, -1);
        due("only after the last schedule, 22220", last.canEnd(0, -1), true);
        due("after the others", last.canEnd(0, 0), true);
        ScheduleReducer first = with(four(STORE, 0), steps(), steps(STORE, 0));
        first.begin(1, 2, -1);
        due("only after the first schedule, 00002", first.canEnd(0, -1), true);
        due("after the others", first.canEnd(0, 0), true);
    }

    private static void canEndOnlyWhenComplete() {
        ScheduleReducer r = with(steps(PLUS, 1, STORE, 0, PLUS, 1, STORE, 0));
        due("at the beginning", r.canEnd(0, 0), false);
        due("on the way", r.canEnd(0, 1), false);
        due("at the end", r.canEnd(0, 2), true);
        ScheduleReducer stuck = with(steps(PLUS, 1, STORE, 0, TAKE, 0, TAKE, 0), steps());
        due("stuck is complete", stuck.canEnd(0, 1), true);
        due("not before", stuck.canEnd(0, 0), false);
    }

    private static void canEndWrongVariable() {
        ScheduleReducer r = busy();
        for (int x : outside(0, 2)) {
            for (int v : new int[] {0, -1, 10, 11, 12, 20, 21, 22}) {
                due("canEnd(" + x + ", " + v + ")", r.canEnd(x, v), false);
            }
        }
    }

    private static void canEndBothAtOnce() {
        ScheduleReducer r = with(steps(STORE, 0, STORE, 1), steps(), steps(STORE, 1, STORE, 0));
        r.begin(1, 0, LEAST);
        r.begin(1, 2, GREATEST);
        due("0 alone", r.canEnd(0, LEAST), true);
        due("1 alone", r.canEnd(1, GREATEST), true);
        due("each, but not both", r.canEndBoth(0, LEAST, 1, GREATEST), false);
        due("each, but not both, exchanged", r.canEndBoth(1, GREATEST, 0, LEAST), false);
        due("both", r.canEndBoth(0, GREATEST, 1, LEAST), true);
        due("both, exchanged", r.canEndBoth(1, LEAST, 0, GREATEST), true);
        due("only the first", r.canEndBoth(0, LEAST, 2, 1), false);
        due("only the second", r.canEndBoth(2, 1, 0, LEAST), false);
    }

    private static void canEndBothOfOneVariable() {
        ScheduleReducer r = with(steps(STORE, 2), steps(STORE, 2));
        r.begin(1, 0, 1);
        r.begin(1, 1, 2);
        due("one value", r.canEndBoth(2, 1, 2, 1), true);
        due("the other value", r.canEndBoth(2, 2, 2, 2), true);
        due("two values", r.canEndBoth(2, 1, 2, 2), false);
        due("a value that it can't have", r.canEndBoth(2, 0, 2, 0), false);
    }

    private static void canEndBothWrongFirst() {
        ScheduleReducer r = busy();
        ScheduleReducer zeros = new ScheduleReducer();
        for (int x : outside(0, 2)) {
            for (int v : new int[] {0, 20, 21, 22}) {
                due("canEndBoth(" + x + ", " + v + ", 0, 21)", r.canEndBoth(x, v, 0, 21), false);
            }
            due("canEndBoth(" + x + ", 0, 0, 0)", zeros.canEndBoth(x, 0, 0, 0), false);
            due("canEndBoth with it twice", zeros.canEndBoth(x, 0, x, 0), false);
        }
        due("the second is right", r.canEnd(0, 21), true);
    }

    private static void canEndBothWrongSecond() {
        ScheduleReducer r = busy();
        ScheduleReducer zeros = new ScheduleReducer();
        for (int y : outside(0, 2)) {
            for (int w : new int[] {0, 20, 21, 22}) {
                due("canEndBoth(0, 21, " + y + ", " + w + ")", r.canEndBoth(0, 21, y, w), false);
            }
            due("canEndBoth(2, 0, " + y + ", 0)", zeros.canEndBoth(2, 0, y, 0), false);
        }
        due("the first is right", r.canEnd(0, 21), true);
    }

    private static void extremeOverAllInts() {
        for (int x = 0; x < 3; x++) {
            ScheduleReducer r = with(steps(STORE, x), steps(STORE, x), steps(STORE, x));
            r.begin(1, x, LEAST);
            r.begin(1, (x + 1) % 3, GREATEST);
            due("least", r.extreme(x, 0), LEAST);
            due("greatest", r.extreme(x, 1), GREATEST);
            due("least of another", r.extreme((x + 1) % 3, 0), 0);
        }
    }

    private static void extremeOnOneSide() {
        ScheduleReducer r = with(steps(STORE, 0), steps(STORE, 0));
        r.begin(1, 0, -7);
        r.begin(1, 1, -9);
        due("least below 0", r.extreme(0, 0), -9);
        due("greatest below 0", r.extreme(0, 1), -7);
        r.begin(1, 0, 7);
        r.begin(1, 1, 9);
        due("least above 0", r.extreme(0, 0), 7);
        due("greatest above 0", r.extreme(0, 1), 9);
        r.begin(0, 1, LEAST);
        due("greatest of one value", r.extreme(1, 1), LEAST);
        r.begin(0, 1, GREATEST);
        due("least of one value", r.extreme(1, 0), GREATEST);
    }

    private static void extremeWrongVariable() {
        ScheduleReducer r = busy();
        for (int x : outside(0, 2)) {
            for (int what = -1; what <= 2; what++) {
                due("extreme(" + x + ", " + what + ")", r.extreme(x, what), 0);
            }
        }
    }

    private static void extremeWrongWhat() {
        ScheduleReducer r = busy();
        for (int x = 0; x < 3; x++) {
            for (int what : outside(0, 1)) {
                due("extreme(" + x + ", " + what + ")", r.extreme(x, what), 0);
            }
            due("its values are above 0", r.extreme(x, 0) > 0, true);
        }
    }

    private static void accumulatorOverAllInts() {
        for (int t = 0; t < 3; t++) {
            int next = (t + 1) % 3;
            ScheduleReducer r = new ScheduleReducer();
            r.step(t, LOAD, t);
            r.step(next, STORE, t);
            r.begin(0, t, GREATEST);
            r.begin(1, next, LEAST);
            due("least", r.accumulator(t, 0), LEAST);
            due("greatest", r.accumulator(t, 1), GREATEST);
            due("greatest of another", r.accumulator(next, 1), LEAST);
        }
    }

    private static void accumulatorOnOneSide() {
        ScheduleReducer r = with(steps(SWAP, 0), steps(SWAP, 0));
        r.begin(0, 0, -7);
        r.begin(1, 0, -8);
        r.begin(1, 1, -9);
        due("least below 0", r.accumulator(0, 0), -9);
        due("greatest below 0", r.accumulator(0, 1), -7);
        r.begin(0, 0, 7);
        r.begin(1, 0, 8);
        r.begin(1, 1, 9);
        due("least above 0", r.accumulator(1, 0), 7);
        due("greatest above 0", r.accumulator(1, 1), 8);
    }

    private static void accumulatorWrongThread() {
        ScheduleReducer r = busy();
        for (int t : outside(0, 2)) {
            for (int what = -1; what <= 2; what++) {
                due("accumulator(" + t + ", " + what + ")", r.accumulator(t, what), 0);
            }
        }
    }

    private static void accumulatorWrongWhat() {
        ScheduleReducer r = busy();
        for (int t = 0; t < 3; t++) {
            for (int what : outside(0, 1)) {
                due("accumulator(" + t + ", " + what + ")", r.accumulator(t, what), 0);
            }
            due("its values are above 0", r.accumulator(t, 0) > 0, true);
        }
    }

    private static void racesInOneOfMany() {
        ScheduleReducer first = with(four(STORE, 0), steps(), steps(STORE, 0));
        first.begin(1, 2, 1);
        due("only the first, 00002, ends with 1", first.races(0), true);
        ScheduleReducer last = with(steps(STORE, 0), steps(), four(STORE, 0));
        last.begin(1, 0, 1);
        due("only the last, 22220, ends with 1", last.races(0), true);
        ScheduleReducer stuck = with(steps(TAKE, 0, PLUS, 1, STORE, 1), steps(), steps(TAKE, 0));
        due("a stuck one is different", stuck.races(1), true);
        stuck.step(2, GIVE, 0);
        due("none is stuck", stuck.races(1), false);
    }

    private static void racesNotWithOneValue() {
        ScheduleReducer r = with(steps(STORE, 0), steps(STORE, 0), steps(LOAD, 0));
        r.begin(1, 0, 4);
        r.begin(1, 1, 4);
        due("equal stores", r.races(0), false);
        due("the accumulator differs, no variable does", r.accumulator(2, 0) != r.accumulator(2, 1), true);
        for (int x = 0; x < 3; x++) {
            due("races(" + x + ")", r.races(x), false);
        }
        due("on the way it was 0, at the end never", r.canEnd(0, 0), false);
    }

    private static void racesWrongVariable() {
        ScheduleReducer r = busy();
        for (int x : outside(0, 2)) {
            due("races(" + x + ")", r.races(x), false);
        }
        for (int x = 0; x < 3; x++) {
            due("races(" + x + ")", r.races(x), true);
            due("accumulator " + x + " has different values", r.accumulator(x, 0) != r.accumulator(x, 1), true);
        }
    }
}
