/** Promises 27 to 37: the results of runs. */
final class ResultTest {
    private ResultTest() {
    }

    static void run() {
        losses();
        missingRuns();
    }

    // Run 0 loses points in every way but time, run 1 over time, run 2 goes on.
    private static SheepdogTrial threeRuns() {
        SheepdogTrial trial = Check.twoLegs();
        trial.startRun();
        trial.walk(20, 16, 11);
        trial.walk(29, 16, 12);
        trial.fault(4);
        trial.walk(31, 10, 13);
        trial.walk(50, 12, 14);
        trial.walk(50, 50, 5);
        trial.startRun();
        trial.walk(40, 10, 500);
        trial.walk(50, 10, 101);
        trial.startRun();
        trial.walk(20, 10, 7);
        return trial;
    }

    private static void losses() {
        SheepdogTrial trial = threeRuns();
        Check.equal("runs", 3, trial.runs());
        expect(trial, 0, true, 55, new int[] {2, 0, 4, 0}, new int[] {14, 10});
        expect(trial, 1, false, 601, new int[] {0, 0, 0, 30}, new int[] {0, 0});
        expect(trial, 2, false, 7, new int[] {0, 0, 0, 0}, new int[] {20, 10});
        Check.isTrue("run 0 has passed gate 0", trial.hasPassed(0, 0));
        Check.isTrue("run 0 has passed gate 1", trial.hasPassed(0, 1));
        Check.isTrue("run 1 has passed gate 0", trial.hasPassed(1, 0));
        Check.isFalse("run 1 has not passed gate 1", trial.hasPassed(1, 1));
        Check.isFalse("run 2 has not passed gate 0", trial.hasPassed(2, 0));
        SheepdogTrial missed = Check.twoLegsRunning();
        missed.walk(29, 16, 1);
        missed.walk(31, 16, 1);
        missed.walk(50, 10, 1);
        missed.walk(44, 28, 1);
        missed.walk(44, 32, 1);
        missed.walk(50, 50, 1);
        expect(missed, 0, true, 6, new int[] {4, 10, 0, 0}, new int[] {13, 3});
    }

    private static void expect(SheepdogTrial trial, int run, boolean complete, int time, int[] losses, int[] points) {
        String name = "run " + run + ": ";
        Check.equal(name + "isComplete", complete, trial.isComplete(run));
        Check.equal(name + "time", time, trial.time(run));
        Check.equal(name + "lineLoss", losses[0], trial.lineLoss(run));
        Check.equal(name + "gateLoss", losses[1], trial.gateLoss(run));
        Check.equal(name + "faultLoss", losses[2], trial.faultLoss(run));
        Check.equal(name + "timeLoss", losses[3], trial.timeLoss(run));
        Check.equal(name + "pointsOn 0", points[0], trial.pointsOn(run, 0));
        Check.equal(name + "pointsOn 1", points[1], trial.pointsOn(run, 1));
        Check.equal(name + "score", points[0] + points[1], trial.score(run));
        Check.equal(name + "scoreByLosses", points[0] + points[1], trial.scoreByLosses(run));
    }

    private static void missingRuns() {
        SheepdogTrial trial = threeRuns();
        for (int run : new int[] {-1, 3, 8, Integer.MIN_VALUE, Integer.MAX_VALUE}) {
            Check.refused("isComplete", Check.INDEX, () -> trial.isComplete(run));
            Check.refused("time", Check.INDEX, () -> trial.time(run));
            Check.refused("hasPassed", Check.INDEX, () -> trial.hasPassed(run, 0));
            Check.refused("pointsOn", Check.INDEX, () -> trial.pointsOn(run, 0));
            Check.refused("score", Check.INDEX, () -> trial.score(run));
            Check.refused("scoreByLosses", Check.INDEX, () -> trial.scoreByLosses(run));
            Check.refused("lineLoss", Check.INDEX, () -> trial.lineLoss(run));
            Check.refused("gateLoss", Check.INDEX, () -> trial.gateLoss(run));
            Check.refused("faultLoss", Check.INDEX, () -> trial.faultLoss(run));
            Check.refused("timeLoss", Check.INDEX, () -> trial.timeLoss(run));
        }
        Check.refused("hasPassed gate -1", Check.INDEX, () -> trial.hasPassed(0, -1));
        Check.refused("hasPassed gate 2", Check.INDEX, () -> trial.hasPassed(0, 2));
        Check.refused("pointsOn leg -1", Check.INDEX, () -> trial.pointsOn(0, -1));
        Check.refused("pointsOn leg 2", Check.INDEX, () -> trial.pointsOn(0, 2));
    }
}
