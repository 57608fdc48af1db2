/** The stages are what their names say, so that a refused call could change something on each. */
final class StageTest {
    private StageTest() {
    }

    static void run() {
        expect(Stage.COURSE, 2, 2, 0, false);
        expect(Stage.RUNNING, 2, 2, 2, true);
        expect(Stage.PASSED, 2, 2, 2, true);
        expect(Stage.ENDED, 2, 2, 3, false);
        expect(Stage.FULL_COURSE, 6, 6, 0, false);
        expect(Stage.FULL_RUNNING, 6, 6, 8, true);
        expect(Stage.FULL_ENDED, 6, 6, 8, false);
        Check.equal("gates passed at RUNNING", 1, Stage.RUNNING.make().nextGate());
        Check.refused("gates passed at PASSED", Check.ELEMENT, () -> Stage.PASSED.make().nextGate());
        Check.isTrue("a complete run", Stage.ENDED.make().isComplete(0));
        Check.isTrue("a retired run", Stage.ENDED.make().faultLoss(1) > 0);
        Check.isTrue("a run over time", Stage.ENDED.make().timeLoss(2) > 0);
    }

    private static void expect(Stage stage, int legs, int gates, int runs, boolean running) {
        SheepdogTrial trial = stage.make();
        Check.equal(stage + ": legs", legs, trial.legs());
        Check.equal(stage + ": gates", gates, trial.gates());
        Check.equal(stage + ": runs", runs, trial.runs());
        Check.equal(stage + ": running", running, trial.isRunning());
        Check.isTrue(stage + ": consistent", trial.isConsistent());
        Check.isTrue(stage + ": a line", Check.line(trial).length() > 0);
        Check.equal(stage + ": the records", "4 2", Portrait.records(trial));
        Check.isTrue(stage + ": changes to undo", trial.undo() > 0);
        Check.equal(stage + ": the saved run", 1, trial.restore());
        Check.equal(stage + ": its fault", trial.totalPoints() - Math.min(7, trial.legPoints(0)), trial.score(0));
    }
}
