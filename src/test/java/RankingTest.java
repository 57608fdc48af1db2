import java.lang.reflect.Array;
import java.lang.reflect.Field;

/** Promises 38 to 43: ranking and statistics. */
final class RankingTest {
    private RankingTest() {
    }

    static void run() throws Exception {
        ranking();
        noRuns();
        bestOn();
        statistics();
        consistency();
    }

    // Scores 26, 27, 26, 27, 27, 30; runs 1, 3 and 4 differ in their points
    // on leg 0 or in their times, runs 0 and 2 only in their numbers.
    private static SheepdogTrial sixRuns() {
        SheepdogTrial trial = Check.twoLegs();
        finish(trial, 4, 0, 9);
        finish(trial, 3, 0, 1);
        finish(trial, 4, 0, 9);
        finish(trial, 0, 3, 9);
        finish(trial, 0, 3, 8);
        trial.startRun();
        return trial;
    }

    private static void finish(SheepdogTrial trial, int fault0, int fault1, int seconds) {
        trial.startRun();
        if (fault0 > 0) {
            trial.fault(fault0);
        }
        trial.walk(50, 10, seconds);
        if (fault1 > 0) {
            trial.fault(fault1);
        }
        trial.walk(50, 50, 1);
    }

    private static void ranking() {
        SheepdogTrial trial = sixRuns();
        int[] order = {5, 4, 3, 1, 0, 2};
        for (int rank = 0; rank < order.length; rank++) {
            Check.equal("runAt " + rank, order[rank], trial.runAt(rank));
            Check.equal("rankOf " + order[rank], rank, trial.rankOf(order[rank]));
        }
        Check.refused("runAt -1", Check.ELEMENT, () -> trial.runAt(-1));
        Check.refused("runAt 6", Check.ELEMENT, () -> trial.runAt(6));
        Check.refused("rankOf -1", Check.INDEX, () -> trial.rankOf(-1));
        Check.refused("rankOf 6", Check.INDEX, () -> trial.rankOf(6));
        trial.fault(9);
        Check.equal("the run that is going on falls", 5, trial.rankOf(5));
        Check.equal("the last of the ranking", 5, trial.runAt(5));
    }

    private static void noRuns() {
        SheepdogTrial trial = Check.twoLegs();
        Check.refused("runAt without runs", Check.ELEMENT, () -> trial.runAt(0));
        Check.refused("rankOf without runs", Check.INDEX, () -> trial.rankOf(0));
        Check.refused("bestOn without runs", Check.ELEMENT, () -> trial.bestOn(0));
        Check.refused("bestOn: the leg first", Check.INDEX, () -> trial.bestOn(2));
        Check.refused("meanScore without runs", Check.ARITHMETIC, trial::meanScore);
        Check.refused("passRate without runs", Check.ARITHMETIC, () -> trial.passRate(0));
        Check.refused("passRate: the gate first", Check.INDEX, () -> trial.passRate(2));
        Check.isTrue("isConsistent without runs", trial.isConsistent());
    }

    private static void bestOn() {
        SheepdogTrial trial = sixRuns();
        Check.equal("bestOn 0", 3, trial.bestOn(0));
        Check.equal("bestOn 1", 0, trial.bestOn(1));
        trial.undo();
        Check.equal("bestOn 0 without the last run", 3, trial.bestOn(0));
        SheepdogTrial second = Check.twoLegs();
        finish(second, 4, 0, 9);
        finish(second, 3, 0, 9);
        finish(second, 3, 0, 9);
        Check.equal("the second of three is best", 1, second.bestOn(0));
        Check.refused("bestOn -1", Check.INDEX, () -> trial.bestOn(-1));
        Check.refused("bestOn 2", Check.INDEX, () -> trial.bestOn(2));
    }

    private static void statistics() {
        SheepdogTrial trial = sixRuns();
        Check.equal("meanScore", 163.0 / 6.0, trial.meanScore());
        Check.equal("passRate 0", 5.0f / 6.0f, trial.passRate(0));
        trial.walk(30, 10, 1);
        Check.equal("passRate 0 of all", 1.0f, trial.passRate(0));
        Check.equal("passRate 1", 5.0f / 6.0f, trial.passRate(1));
        Check.refused("passRate -1", Check.INDEX, () -> trial.passRate(-1));
        Check.refused("passRate 2", Check.INDEX, () -> trial.passRate(2));
    }

    // No call can break an invariant, so the test reaches inside to see that
    // a broken one is told.
    private static void consistency() throws Exception {
        SheepdogTrial trial = sixRuns();
        Check.isTrue("isConsistent", trial.isConsistent());
        Object first = innerRun(trial, 0);
        field(first, "lostByFaults").setInt(first, 5);
        Check.isFalse("the scores disagree", trial.isConsistent());
        field(first, "lostByFaults").setInt(first, 4);
        Check.isTrue("the scores agree again", trial.isConsistent());
        Object last = innerRun(trial, 5);
        field(last, "complete").setBoolean(last, true);
        Check.isFalse("complete while it is going on", trial.isConsistent());
        field(last, "complete").setBoolean(last, false);
        int[] points = (int[]) field(last, "points").get(last);
        points[0]++;
        points[1]--;
        Check.isFalse("more points than the leg has", trial.isConsistent());
    }

    private static Object innerRun(SheepdogTrial trial, int run) throws Exception {
        Object state = field(trial, "now").get(trial);
        return Array.get(field(state, "runs").get(state), run);
    }

    private static Field field(Object owner, String name) throws Exception {
        Field field = owner.getClass().getDeclaredField(name);
        field.setAccessible(true);
        return field;
    }
}
