/** The edges of promises 7, 9, 10 and 19 to 23, sentence by sentence. */
final class RunBoundaryTest {
    private RunBoundaryTest() {
    }

    static void run() {
        noLegs();
        oneRunAtATime();
        atMostEightRuns();
        everythingAtTheStartOfARun();
        pointsOfAFault();
        faultTakesWhatIsThere();
        faultOnThePresentLegOnly();
        retireTakesWhatIsThere();
        noRunIsGoingOn();
        firstListedException();
        gateThatIsNotPassed();
        presentRun();
    }

    // "Throws IllegalStateException if there are no legs, a run is going on,
    // or there are 8 runs"
    private static void noLegs() {
        Refusal.check("startRun without legs", Check.STATE, SheepdogTrial::startRun, Stage.NEW);
        SheepdogTrial trial = new SheepdogTrial();
        trial.setStart(9, 9);
        trial.setTolerance(9);
        Check.refused("startRun without legs, after changes", Check.STATE, trial::startRun);
        trial.addLeg(9, 9, 1);
        Check.equal("startRun with one leg", 0, trial.startRun());
        SheepdogTrial undone = new SheepdogTrial();
        undone.addLeg(9, 9, 1);
        undone.undo();
        Check.refused("startRun after the leg is undone", Check.STATE, undone::startRun);
    }

    // "At most one run is going on at a time."
    private static void oneRunAtATime() {
        Refusal.check("startRun in a run", Check.STATE, SheepdogTrial::startRun, Stage.WITH_A_RUN_GOING_ON);
        SheepdogTrial trial = Check.twoLegsRunning();
        trial.retire();
        Check.equal("startRun after a retired run", 1, trial.startRun());
        trial.walk(50, 10, 1);
        Check.refused("startRun on the second leg", Check.STATE, trial::startRun);
        trial.walk(50, 50, 1);
        Check.equal("startRun after a complete run", 2, trial.startRun());
        trial.walk(1, 1, 601);
        Check.equal("startRun after a run over the limit", 3, trial.startRun());
        trial.fault(9);
        Check.refused("startRun after a fault", Check.STATE, trial::startRun);
        Check.equal("runs", 4, trial.runs());
    }

    // "There are at most 8 runs, numbered from 0 in the order in which they
    // were started."
    private static void atMostEightRuns() {
        SheepdogTrial trial = Check.twoLegs();
        for (int run = 0; run < 8; run++) {
            Check.equal("runs before run " + run, run, trial.runs());
            Check.equal("startRun " + run, run, trial.startRun());
            Check.equal("runs after run " + run, run + 1, trial.runs());
            trial.retire();
        }
        Refusal.check("a ninth run", Check.STATE, SheepdogTrial::startRun, Stage.FULL_ENDED);
        Refusal.check("a ninth run in the eighth", Check.STATE, SheepdogTrial::startRun, Stage.FULL_RUNNING);
        trial.undo();
        Check.refused("startRun in the eighth run again", Check.STATE, trial::startRun);
        trial.undo();
        Check.equal("another eighth run", 7, trial.startRun());
    }

    // "When a run is started, the flock is at the start, the present leg is
    // leg 0, the time of the run is 0, no gate is passed, and the run has all
    // points of every leg."
    private static void everythingAtTheStartOfARun() {
        SheepdogTrial trial = Stage.FULL_COURSE.make();
        for (int run = 0; run < 8; run++) {
            trial.startRun();
            Check.equal("flock of run " + run, "10,10", trial.flockX() + "," + trial.flockY());
            Check.equal("present leg of run " + run, 0, trial.presentLeg());
            Check.equal("time of run " + run, 0, trial.time(run));
            Check.isFalse("complete " + run, trial.isComplete(run));
            for (int i = 0; i < 6; i++) {
                Check.isFalse("gate " + i + " of run " + run, trial.hasPassed(run, i));
                Check.equal("points on leg " + i + " of run " + run, 5 + 5 * i, trial.pointsOn(run, i));
            }
            Check.equal("losses of run " + run, 0, trial.lineLoss(run) + trial.gateLoss(run) + trial.faultLoss(run)
                    + trial.timeLoss(run));
            spoil(trial, run);
        }
    }

    private static void spoil(SheepdogTrial trial, int run) {
        trial.walk(13, 40, 5);
        trial.fault(1);
        for (int[] end : Stage.ENDS) {
            trial.walk(end[0], end[1], 5);
        }
        Check.isTrue("run " + run + " is complete", trial.isComplete(run));
        Check.isTrue("run " + run + " has lost points", trial.score(run) < trial.totalPoints());
        Check.isTrue("run " + run + " has passed gate 0", trial.hasPassed(run, 0));
    }

    // "points: the points, 1 to 9"
    private static void pointsOfAFault() {
        for (int points = 1; points <= 9; points++) {
            SheepdogTrial trial = Check.twoLegsRunning();
            Check.equal("fault " + points, points, trial.fault(points));
            Check.equal("faultLoss " + points, points, trial.faultLoss(0));
            Check.equal("pointsOn after " + points, 20 - points, trial.pointsOn(0, 0));
        }
        Refusal.outside("fault", Check.ARGUMENT, 1, 9, SheepdogTrial::fault, Stage.values());
    }

    // "the run loses that many of its points of this leg, but not more than it
    // has"
    private static void faultTakesWhatIsThere() {
        for (int points = 1; points <= 30; points++) {
            SheepdogTrial trial = new SheepdogTrial();
            trial.addLeg(50, 50, points);
            trial.addLeg(60, 60, 30);
            trial.startRun();
            int left = points;
            for (int fault = 1; fault <= 9; fault++) {
                int due = Math.min(fault, left);
                left -= due;
                Check.equal("fault " + fault + " of " + points, due, trial.fault(fault));
                Check.equal("points left of " + points, left, trial.pointsOn(0, 0));
                Check.equal("faultLoss of " + points, points - left, trial.faultLoss(0));
            }
            Check.equal("nothing is left", 0, left);
            Check.isTrue("a run without points on its leg goes on", trial.isRunning());
            Check.equal("the next leg has all", 30, trial.pointsOn(0, 1));
        }
    }

    // "A fault deducts points on the present leg"
    private static void faultOnThePresentLegOnly() {
        SheepdogTrial trial = Stage.FULL_COURSE.make();
        trial.startRun();
        for (int leg = 0; leg < 6; leg++) {
            int had = trial.pointsOn(0, leg);
            int score = trial.score(0);
            Check.equal("fault on leg " + leg, 2, trial.fault(2));
            Check.equal("points on leg " + leg, had - 2, trial.pointsOn(0, leg));
            Check.equal("score after a fault on leg " + leg, score - 2, trial.score(0));
            trial.walk(Stage.ENDS[leg][0], Stage.ENDS[leg][1], 1);
        }
        Check.equal("faultLoss", 12, trial.faultLoss(0));
    }

    // "When a run is retired, it ends, and it loses all points that it has on
    // the present leg and on all later legs, which belong to the fault loss."
    private static void retireTakesWhatIsThere() {
        for (int retired = 0; retired < 6; retired++) {
            SheepdogTrial trial = new SheepdogTrial();
            for (int leg = 0; leg < 6; leg++) {
                trial.addLeg(50, 50, 10 + leg);
            }
            trial.startRun();
            int due = 0;
            for (int leg = 0; leg < 6; leg++) {
                if (leg < retired) {
                    trial.walk(50, 50, 1);
                } else {
                    due += 10 + leg;
                }
            }
            Check.equal("retire on leg " + retired, due, trial.retire());
            Check.equal("faultLoss", due, trial.faultLoss(0));
            Check.equal("timeLoss", 0, trial.timeLoss(0));
            for (int leg = 0; leg < 6; leg++) {
                Check.equal("points on leg " + leg, leg < retired ? 10 + leg : 0, trial.pointsOn(0, leg));
            }
            Check.isFalse("running", trial.isRunning());
            Check.isFalse("complete", trial.isComplete(0));
            Check.refused("retire again", Check.STATE, trial::retire);
        }
        SheepdogTrial empty = new SheepdogTrial();
        empty.addLeg(50, 50, 3);
        empty.startRun();
        empty.fault(2);
        Check.equal("retire with one point", 1, empty.retire());
        empty.undo();
        empty.fault(1);
        Check.equal("retire without points", 0, empty.retire());
        Check.isFalse("a run without points has ended", empty.isRunning());
    }

    // "Throws IllegalStateException if no run is going on"
    private static void noRunIsGoingOn() {
        Stage[] stages = Stage.WITHOUT_A_RUN_GOING_ON;
        for (int points = 1; points <= 9; points += 8) {
            int deducted = points;
            Refusal.check("fault " + points, Check.STATE, t -> t.fault(deducted), stages);
        }
        Refusal.check("retire", Check.STATE, SheepdogTrial::retire, stages);
        Refusal.check("presentLeg", Check.STATE, SheepdogTrial::presentLeg, stages);
        Refusal.check("flockX", Check.STATE, SheepdogTrial::flockX, stages);
        Refusal.check("flockY", Check.STATE, SheepdogTrial::flockY, stages);
        for (Stage stage : stages) {
            Check.isFalse("isRunning on " + stage, stage.make().isRunning());
        }
        for (Stage stage : Stage.WITH_A_RUN_GOING_ON) {
            Check.isTrue("isRunning on " + stage, stage.make().isRunning());
        }
    }

    // "If several conditions for an exception hold, the exception that is
    // listed first is thrown."
    private static void firstListedException() {
        Stage[] stages = Stage.WITHOUT_A_RUN_GOING_ON;
        Refusal.check("fault 0 without a run", Check.ARGUMENT, t -> t.fault(0), stages);
        Refusal.check("fault 10 without a run", Check.ARGUMENT, t -> t.fault(10), stages);
        Refusal.check("nextGate without a run", Check.STATE, SheepdogTrial::nextGate, stages);
    }

    // "Throws NoSuchElementException if there is no such gate"
    private static void gateThatIsNotPassed() {
        Refusal.check("nextGate, all passed", Check.ELEMENT, SheepdogTrial::nextGate, Stage.PASSED);
        SheepdogTrial without = new SheepdogTrial();
        without.addLeg(90, 0, 9);
        without.addLeg(90, 90, 9);
        without.addGate(1, 80, 50, 99, 50);
        without.startRun();
        Check.refused("nextGate on a leg without gates", Check.ELEMENT, without::nextGate);
        without.walk(90, 0, 1);
        Check.equal("nextGate of the second leg", 0, without.nextGate());
        SheepdogTrial six = new SheepdogTrial();
        six.addLeg(90, 0, 9);
        for (int gate = 0; gate < 6; gate++) {
            six.addGate(0, 10 + 10 * gate, 0, 10 + 10 * gate, 5);
        }
        six.startRun();
        for (int gate = 0; gate < 6; gate++) {
            Check.equal("nextGate before gate " + gate, gate, six.nextGate());
            six.walk(9 + 10 * gate, 0, 1);
            Check.equal("nextGate 1 before gate " + gate, gate, six.nextGate());
            six.walk(10 + 10 * gate, 0, 1);
        }
        Check.refused("nextGate after the sixth", Check.ELEMENT, six::nextGate);
    }

    private static void presentRun() {
        SheepdogTrial trial = Stage.FULL_COURSE.make();
        trial.startRun();
        for (int leg = 0; leg < 6; leg++) {
            Check.isTrue("isRunning on leg " + leg, trial.isRunning());
            Check.equal("presentLeg " + leg, leg, trial.presentLeg());
            trial.walk(0, 99, 1);
            Check.equal("flockX", 0, trial.flockX());
            Check.equal("flockY", 99, trial.flockY());
            trial.walk(99, 0, 1);
            Check.equal("flockX", 99, trial.flockX());
            Check.equal("flockY", 0, trial.flockY());
            trial.walk(Stage.ENDS[leg][0], Stage.ENDS[leg][1], 1);
        }
        Check.isFalse("isRunning after the last leg", trial.isRunning());
        Check.refused("presentLeg after the last leg", Check.STATE, trial::presentLeg);
    }
}
