/** Promises 7, 9, 10 and 19 to 23: starting, faults, retiring, and the run that is going on. */
final class RunTest {
    private RunTest() {
    }

    static void run() {
        startRun();
        startRunInPlaceOfAnUndoneOne();
        fault();
        retire();
        presentRun();
        nextGate();
    }

    private static void startRun() {
        SheepdogTrial trial = new SheepdogTrial();
        Check.refused("startRun without legs", Check.STATE, trial::startRun);
        Check.equal("no run", 0, trial.runs());
        trial.setStart(3, 4);
        trial.addLeg(50, 50, 7);
        trial.addGate(0, 3, 4, 9, 9);
        for (int run = 0; run < 8; run++) {
            Check.equal("startRun", run, trial.startRun());
            Check.refused("startRun in a run", Check.STATE, trial::startRun);
            Check.equal("flock x", 3, trial.flockX());
            Check.equal("flock y", 4, trial.flockY());
            Check.equal("present leg", 0, trial.presentLeg());
            Check.equal("time", 0, trial.time(run));
            Check.equal("points", 7, trial.pointsOn(run, 0));
            Check.isFalse("gate", trial.hasPassed(run, 0));
            trial.walk(20, 60, 5);
            trial.retire();
        }
        Check.refused("a ninth run", Check.STATE, trial::startRun);
        Check.equal("eight runs", 8, trial.runs());
    }

    private static void startRunInPlaceOfAnUndoneOne() {
        SheepdogTrial trial = Check.twoLegs();
        trial.addGate(0, 1, 1, 2, 2);
        trial.startRun();
        trial.walk(29, 16, 9);
        trial.walk(31, 10, 9);
        trial.fault(1);
        trial.walk(50, 10, 9);
        trial.walk(44, 28, 9);
        trial.walk(44, 32, 9);
        Check.equal("gate loss before the undo", 5, trial.gateLoss(0));
        for (int change = 0; change < 7; change++) {
            trial.undo();
        }
        Check.equal("the run is undone", 0, trial.runs());
        trial.startRun();
        Check.equal("time", 0, trial.time(0));
        Check.equal("score", 30, trial.score(0));
        Check.equal("losses", 30, trial.scoreByLosses(0));
        Check.isFalse("gate", trial.hasPassed(0, 0));
        Check.isFalse("complete", trial.isComplete(0));
        Check.equal("time loss before the undo", 30, trial.walk(1, 1, 999));
        trial.undo();
        trial.undo();
        trial.startRun();
        Check.equal("time loss", 0, trial.timeLoss(0));
        Check.equal("score by losses", 30, trial.scoreByLosses(0));
    }

    private static void fault() {
        SheepdogTrial trial = Check.twoLegs();
        Check.refused("fault without a run", Check.STATE, () -> trial.fault(1));
        Check.refused("fault: the argument first", Check.ARGUMENT, () -> trial.fault(10));
        trial.startRun();
        Check.refused("fault 0", Check.ARGUMENT, () -> trial.fault(0));
        Check.refused("fault -1", Check.ARGUMENT, () -> trial.fault(-1));
        Check.equal("fault 1", 1, trial.fault(1));
        Check.equal("fault 9", 9, trial.fault(9));
        Check.equal("points on leg 0", 10, trial.pointsOn(0, 0));
        trial.walk(50, 10, 1);
        Check.equal("fault on leg 1", 8, trial.fault(8));
        Check.equal("a fault takes what is there", 2, trial.fault(9));
        Check.equal("a fault on nothing", 0, trial.fault(9));
        Check.equal("fault loss", 20, trial.faultLoss(0));
        Check.equal("points on leg 0 stay", 10, trial.pointsOn(0, 0));
        Check.isTrue("the run goes on", trial.isRunning());
    }

    private static void retire() {
        SheepdogTrial trial = Check.twoLegs();
        Check.refused("retire without a run", Check.STATE, trial::retire);
        trial.startRun();
        trial.fault(3);
        Check.equal("retire on leg 0", 27, trial.retire());
        Check.equal("fault loss", 30, trial.faultLoss(0));
        Check.equal("score", 0, trial.score(0));
        Check.isFalse("the run has ended", trial.isRunning());
        Check.isFalse("it is not complete", trial.isComplete(0));
        Check.refused("retire again", Check.STATE, trial::retire);
        trial.startRun();
        trial.walk(50, 10, 1);
        Check.equal("retire on leg 1", 10, trial.retire());
        Check.equal("leg 0 keeps its points", 20, trial.score(1));
    }

    private static void presentRun() {
        SheepdogTrial trial = Check.twoLegs();
        Check.isFalse("not running", trial.isRunning());
        Check.refused("presentLeg without a run", Check.STATE, trial::presentLeg);
        Check.refused("flockX without a run", Check.STATE, trial::flockX);
        Check.refused("flockY without a run", Check.STATE, trial::flockY);
        trial.startRun();
        Check.isTrue("running", trial.isRunning());
        trial.walk(48, 12, 1);
        Check.equal("flockX", 48, trial.flockX());
        Check.equal("flockY", 12, trial.flockY());
        Check.equal("presentLeg", 1, trial.presentLeg());
        trial.walk(50, 50, 1);
        Check.isFalse("not running at the end", trial.isRunning());
        Check.refused("presentLeg after the run", Check.STATE, trial::presentLeg);
        Check.refused("flockX after the run", Check.STATE, trial::flockX);
        Check.refused("flockY after the run", Check.STATE, trial::flockY);
    }

    private static void nextGate() {
        SheepdogTrial trial = Check.twoLegs();
        trial.addGate(0, 40, 5, 40, 15);
        Check.refused("nextGate without a run", Check.STATE, trial::nextGate);
        trial.startRun();
        Check.equal("the first gate", 0, trial.nextGate());
        trial.walk(35, 10, 1);
        Check.equal("the gate of the other leg is left out", 2, trial.nextGate());
        trial.walk(45, 10, 1);
        Check.refused("no gate left", Check.ELEMENT, trial::nextGate);
        trial.walk(50, 10, 1);
        Check.equal("the gate of leg 1", 1, trial.nextGate());
        trial.retire();
        Check.refused("nextGate after the run", Check.STATE, trial::nextGate);
    }
}
