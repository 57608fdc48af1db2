/** The edges of promises 27 to 37, sentence by sentence. */
final class ResultBoundaryTest {
    private ResultBoundaryTest() {
    }

    static void run() {
        numberOfRuns();
        runIndexes();
        gateIndexes();
        legIndexes();
        completeOnlyByTheLastLeg();
        timeOfARun();
        scoresFromNothingToAll();
        lossesThatWereReallyLost();
    }

    // "Returns the number of runs.", from 0 to 8.
    private static void numberOfRuns() {
        SheepdogTrial trial = Check.twoLegs();
        for (int runs = 0; runs < 8; runs++) {
            Check.equal("runs", runs, trial.runs());
            trial.startRun();
            Check.refused("startRun in a run", Check.STATE, trial::startRun);
            Check.equal("runs with the one that is going on", runs + 1, trial.runs());
            trial.retire();
        }
        Check.refused("a ninth run", Check.STATE, trial::startRun);
        Check.equal("runs", 8, trial.runs());
    }

    // "Throws IndexOutOfBoundsException if there is no such run"
    private static void runIndexes() {
        for (Stage stage : Stage.values()) {
            int runs = stage.make().runs();
            Refusal.index("isComplete", runs, SheepdogTrial::isComplete, stage);
            Refusal.index("time", runs, SheepdogTrial::time, stage);
            Refusal.index("score", runs, SheepdogTrial::score, stage);
            Refusal.index("scoreByLosses", runs, SheepdogTrial::scoreByLosses, stage);
            Refusal.index("lineLoss", runs, SheepdogTrial::lineLoss, stage);
            Refusal.index("gateLoss", runs, SheepdogTrial::gateLoss, stage);
            Refusal.index("faultLoss", runs, SheepdogTrial::faultLoss, stage);
            Refusal.index("timeLoss", runs, SheepdogTrial::timeLoss, stage);
            Refusal.index("hasPassed, run", runs, (t, n) -> t.hasPassed(n, 0), stage);
            Refusal.index("pointsOn, run", runs, (t, n) -> t.pointsOn(n, 0), stage);
            Refusal.index("hasPassed, run and gate", runs, (t, n) -> t.hasPassed(n, -1), stage);
            Refusal.index("pointsOn, run and leg", runs, (t, n) -> t.pointsOn(n, 6), stage);
            theLastRunIsThere(stage);
        }
        SheepdogTrial trial = Check.twoLegsRunning();
        trial.undo();
        Check.refused("a run that was undone", Check.INDEX, () -> trial.score(0));
    }

    private static void theLastRunIsThere(Stage stage) {
        SheepdogTrial trial = stage.make();
        for (int run = 0; run < trial.runs(); run++) {
            int lost = trial.lineLoss(run) + trial.gateLoss(run) + trial.faultLoss(run) + trial.timeLoss(run);
            Check.equal("losses of run " + run + " on " + stage, trial.totalPoints() - lost, trial.score(run));
            Check.equal("scores of run " + run + " on " + stage, trial.score(run), trial.scoreByLosses(run));
        }
    }

    // "Throws IndexOutOfBoundsException if there is no such run or no such
    // gate"
    private static void gateIndexes() {
        for (Stage stage : Stage.AFTER_THE_FIRST_RUN) {
            SheepdogTrial trial = stage.make();
            int last = trial.runs() - 1;
            Refusal.index("hasPassed, gate", trial.gates(), (t, n) -> t.hasPassed(0, n), stage);
            Refusal.index("hasPassed, gate of the last run", trial.gates(), (t, n) -> t.hasPassed(last, n), stage);
        }
        SheepdogTrial trial = new SheepdogTrial();
        trial.addLeg(90, 0, 9);
        for (int gate = 0; gate < 6; gate++) {
            trial.addGate(0, 10 + 10 * gate, 0, 10 + 10 * gate, 5);
        }
        trial.startRun();
        for (int gate = 0; gate < 6; gate++) {
            Check.isFalse("before gate " + gate, trial.hasPassed(0, gate));
            trial.walk(10 + 10 * gate, 0, 1);
            for (int i = 0; i < 6; i++) {
                Check.equal("gate " + i + " at gate " + gate, i <= gate, trial.hasPassed(0, i));
            }
        }
        SheepdogTrial without = new SheepdogTrial();
        without.addLeg(90, 0, 9);
        without.startRun();
        Check.refused("hasPassed without gates", Check.INDEX, () -> without.hasPassed(0, 0));
    }

    // "Throws IndexOutOfBoundsException if there is no such run or no such leg"
    private static void legIndexes() {
        for (Stage stage : Stage.AFTER_THE_FIRST_RUN) {
            SheepdogTrial trial = stage.make();
            int last = trial.runs() - 1;
            Refusal.index("pointsOn, leg", trial.legs(), (t, n) -> t.pointsOn(0, n), stage);
            Refusal.index("pointsOn, leg of the last run", trial.legs(), (t, n) -> t.pointsOn(last, n), stage);
        }
        SheepdogTrial trial = Stage.FULL_RUNNING.make();
        Check.equal("the last leg of the first run", 0, trial.pointsOn(0, 5));
        Check.equal("the last leg of the last run", 30, trial.pointsOn(7, 5));
        Check.equal("the first leg of the last run", 5, trial.pointsOn(7, 0));
    }

    // "Returns true if its last leg was completed."
    private static void completeOnlyByTheLastLeg() {
        for (int legs = 1; legs <= 6; legs++) {
            SheepdogTrial trial = new SheepdogTrial();
            for (int leg = 0; leg < legs; leg++) {
                trial.addLeg(Stage.ENDS[leg][0], Stage.ENDS[leg][1], 30);
            }
            trial.startRun();
            for (int leg = 0; leg < legs; leg++) {
                Check.isFalse("complete before leg " + leg, trial.isComplete(0));
                trial.walk(Stage.ENDS[leg][0], Stage.ENDS[leg][1], 1);
            }
            Check.isTrue("complete after " + legs, trial.isComplete(0));
            trial.startRun();
            Check.isTrue("the earlier run stays complete", trial.isComplete(0));
            Check.isFalse("the new run", trial.isComplete(1));
            trial.retire();
            Check.isFalse("a retired run", trial.isComplete(1));
            trial.startRun();
            trial.walk(Stage.ENDS[legs - 1][0], Stage.ENDS[legs - 1][1], 601);
            Check.isFalse("a run over the limit", trial.isComplete(2));
        }
        SheepdogTrial zero = new SheepdogTrial();
        zero.addLeg(50, 50, 1);
        zero.startRun();
        zero.fault(1);
        zero.walk(50, 50, 1);
        Check.isTrue("complete without points", zero.isComplete(0));
    }

    // "Returns the time in seconds.", which stays when the run has ended.
    private static void timeOfARun() {
        SheepdogTrial trial = Check.twoLegs();
        trial.setTimeLimit(999);
        trial.startRun();
        Check.equal("time at the start", 0, trial.time(0));
        trial.walk(11, 10, 1);
        Check.equal("time after a second", 1, trial.time(0));
        trial.walk(12, 10, 998);
        Check.equal("time at the limit", 999, trial.time(0));
        trial.fault(1);
        Check.equal("a fault takes no time", 999, trial.time(0));
        trial.walk(13, 10, 999);
        Check.equal("the longest time", 1998, trial.time(0));
        trial.startRun();
        Check.equal("time of the next run", 0, trial.time(1));
        Check.refused("walk in 1000 seconds", Check.ARGUMENT, () -> trial.walk(13, 10, 1000));
        trial.retire();
        Check.equal("retiring takes no time", 0, trial.time(1));
        Check.equal("time of the earlier run", 1998, trial.time(0));
    }

    // Both ways of computing the score, at 0, at 180 and between.
    private static void scoresFromNothingToAll() {
        SheepdogTrial trial = new SheepdogTrial();
        for (int leg = 0; leg < 6; leg++) {
            trial.addLeg(50, 50, 30);
        }
        trial.startRun();
        expectScore(trial, 0, 180);
        int due = 180;
        for (int leg = 0; leg < 6; leg++) {
            for (int fault = 0; fault < 4; fault++) {
                due -= fault < 3 ? 9 : 3;
                trial.fault(9);
                expectScore(trial, 0, due);
            }
            trial.walk(50, 50, 1);
        }
        expectScore(trial, 0, 0);
        trial.startRun();
        trial.retire();
        expectScore(trial, 1, 0);
        Check.equal("faultLoss of all", 180, trial.faultLoss(1));
        trial.startRun();
        trial.walk(50, 50, 999);
        expectScore(trial, 2, 0);
        Check.equal("timeLoss of all", 180, trial.timeLoss(2));
    }

    private static void expectScore(SheepdogTrial trial, int run, int due) {
        Check.equal("score of run " + run, due, trial.score(run));
        Check.equal("scoreByLosses of run " + run, due, trial.scoreByLosses(run));
    }

    // "All losses count only the points that were really lost."
    private static void lossesThatWereReallyLost() {
        for (int points = 1; points <= 3; points++) {
            SheepdogTrial trial = new SheepdogTrial();
            trial.addLeg(50, 0, points);
            trial.addGate(0, 1, 90, 2, 90);
            trial.startRun();
            for (int step = 1; step <= 4; step++) {
                trial.walk(20, 20, 1);
                Check.equal("lineLoss of " + points, Math.min(step, points), trial.lineLoss(0));
            }
            trial.fault(9);
            trial.walk(50, 0, 1);
            Check.equal("faultLoss without points", 0, trial.faultLoss(0));
            Check.equal("gateLoss without points", 0, trial.gateLoss(0));
            expectScore(trial, 0, 0);
            trial.startRun();
            trial.fault(points);
            trial.walk(20, 20, 1);
            Check.equal("lineLoss without points", 0, trial.lineLoss(1));
            Check.equal("retire without points", 0, trial.retire());
            Check.equal("faultLoss", points, trial.faultLoss(1));
            trial.startRun();
            trial.fault(points);
            trial.walk(20, 20, 999);
            Check.equal("timeLoss without points", 0, trial.timeLoss(2));
        }
    }
}
