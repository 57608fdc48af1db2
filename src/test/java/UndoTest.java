/** Promises 51 to 53: undo and snapshots. */
final class UndoTest {
    private UndoTest() {
    }

    static void run() {
        everyChange();
        eightChanges();
        refusalsAreNoChange();
        askingIsNoChange();
        undoOfRuns();
        saveAndRestore();
        savedStateIsNotUndone();
    }

    private static void everyChange() {
        SheepdogTrial trial = new SheepdogTrial();
        trial.setStart(5, 6);
        trial.addLeg(20, 6, 9);
        Check.equal("undo of addLeg", 1, trial.undo());
        Check.equal("legs", 0, trial.legs());
        trial.addLeg(20, 6, 9);
        trial.addGate(0, 1, 1, 2, 2);
        Check.equal("undo of addGate", 2, trial.undo());
        Check.equal("gates", 0, trial.gates());
        trial.setTolerance(9);
        Check.equal("undo of setTolerance", 2, trial.undo());
        Check.equal("tolerance", 5, trial.tolerance());
        trial.setTimeLimit(99);
        Check.equal("undo of setTimeLimit", 2, trial.undo());
        Check.equal("timeLimit", 600, trial.timeLimit());
        trial.startRun();
        trial.fault(2);
        Check.equal("undo of fault", 3, trial.undo());
        Check.equal("score", 9, trial.score(0));
        trial.walk(10, 6, 7);
        Check.equal("undo of walk", 3, trial.undo());
        Check.equal("x", 5, trial.flockX());
        Check.equal("time", 0, trial.time(0));
        trial.retire();
        Check.equal("undo of retire", 3, trial.undo());
        Check.isTrue("running", trial.isRunning());
        Check.equal("execute", 2, Check.execute(trial, "fault 1;retire"));
        Check.equal("undo of execute", 3, trial.undo());
        Check.equal("score", 9, trial.score(0));
        Check.equal("undo of startRun", 2, trial.undo());
        Check.equal("runs", 0, trial.runs());
        Check.equal("undo of addLeg", 1, trial.undo());
        Check.equal("undo of setStart", 0, trial.undo());
        Check.refused("nothing left", Check.STATE, trial::undo);
        trial.addLeg(1, 1, 1);
        trial.startRun();
        Check.equal("the start is undone", 0, trial.flockX());
    }

    private static void eightChanges() {
        SheepdogTrial trial = new SheepdogTrial();
        for (int tolerance = 1; tolerance <= 20; tolerance++) {
            trial.setTolerance(tolerance);
        }
        for (int left = 7; left >= 4; left--) {
            Check.equal("undo", left, trial.undo());
            Check.equal("tolerance", 12 + left, trial.tolerance());
        }
        trial.setTolerance(2);
        for (int left = 4; left >= 0; left--) {
            Check.equal("undo after a new change", left, trial.undo());
        }
        Check.equal("the eighth change before the latest", 12, trial.tolerance());
        Check.refused("no ninth change", Check.STATE, trial::undo);
        Check.equal("a refusal changes nothing", 12, trial.tolerance());
    }

    private static void refusalsAreNoChange() {
        SheepdogTrial trial = Check.twoLegs();
        for (int i = 0; i < 9; i++) {
            Check.refused("setStart", Check.ARGUMENT, () -> trial.setStart(100, 0));
            Check.refused("walk", Check.STATE, () -> trial.walk(1, 1, 1));
            Check.equal("fault", "UnsupportedOperationException", Check.execute(trial, "fault 1"));
            Check.equal("no program", "IllegalArgumentException", Check.execute(trial, "fault"));
        }
        Check.equal("undo", 4, trial.undo());
        Check.equal("gates", 1, trial.gates());
    }

    private static void askingIsNoChange() {
        SheepdogTrial trial = Check.twoLegsRunning();
        trial.lossOfStep(30, 10, 1);
        trial.gatesPassedTo(30, 10);
        trial.runAt(0);
        trial.isConsistent();
        trial.writeRun(0);
        trial.writeRanking();
        trial.type('x');
        trial.save();
        Check.equal("undo", 5, trial.undo());
        Check.equal("runs", 0, trial.runs());
    }

    private static void undoOfRuns() {
        SheepdogTrial trial = Check.twoLegsRunning();
        trial.walk(50, 10, 700);
        Check.equal("undo of a step beyond the limit", 6, trial.undo());
        Check.isTrue("running", trial.isRunning());
        Check.equal("timeLoss", 0, trial.timeLoss(0));
        trial.walk(50, 10, 1);
        trial.walk(50, 50, 1);
        Check.isTrue("complete", trial.isComplete(0));
        Check.equal("undo of the last step", 7, trial.undo());
        Check.isFalse("complete no more", trial.isComplete(0));
        Check.equal("presentLeg", 1, trial.presentLeg());
        Check.equal("undo of the first step", 6, trial.undo());
        Check.equal("presentLeg", 0, trial.presentLeg());
        Check.isFalse("gate", trial.hasPassed(0, 0));
        Check.equal("undo of the run", 5, trial.undo());
        Check.equal("the course can be changed again", 2, trial.addLeg(1, 1, 1));
        trial.startRun();
        Check.equal("the new run has all legs", 1, trial.pointsOn(0, 2));
    }

    private static void saveAndRestore() {
        SheepdogTrial trial = Check.twoLegs();
        Check.refused("restore", Check.STATE, trial::restore);
        Check.equal("undo after a refusal", 4, trial.undo());
        Check.equal("save without runs", 0, trial.save());
        trial.startRun();
        trial.fault(3);
        Check.equal("save in a run", 1, trial.save());
        trial.walk(50, 10, 9);
        trial.retire();
        trial.startRun();
        Check.equal("restore", 1, trial.restore());
        Check.isTrue("running", trial.isRunning());
        Check.equal("x", 10, trial.flockX());
        Check.equal("presentLeg", 0, trial.presentLeg());
        Check.equal("score", 27, trial.score(0));
        Check.equal("time", 0, trial.time(0));
        Check.refused("no undo after restore", Check.STATE, trial::undo);
        trial.retire();
        Check.equal("undo of a change after restore", 0, trial.undo());
        trial.fault(9);
        Check.equal("restore again", 1, trial.restore());
        Check.equal("score", 27, trial.score(0));
        Check.equal("save counts the runs", 1, trial.save());
    }

    private static void savedStateIsNotUndone() {
        SheepdogTrial trial = new SheepdogTrial();
        trial.setTolerance(7);
        trial.save();
        Check.equal("save leaves the changes", 0, trial.undo());
        Check.equal("tolerance", 5, trial.tolerance());
        Check.equal("restore after undo", 0, trial.restore());
        Check.equal("tolerance", 7, trial.tolerance());
    }
}
