/** The edges of promises 8 and 24 to 26, sentence by sentence. */
final class StepBoundaryTest {
    private StepBoundaryTest() {
    }

    static void run() {
        coordinatesOfAStep();
        secondsOfAStep();
        noRunIsGoingOn();
        firstListedException();
        greaterThanTheTimeLimit();
        nothingElseBeyondTheTimeLimit();
        lossBeyondTheTimeLimit();
        gateInCommonWithTheStep();
        gatesInTheOrderOfTheirNumbers();
        standingStill();
        greaterThanTheTolerance();
        greaterThanTheToleranceAside();
        atMostThreeFromTheEnd();
        gatesThatAreNotPassed();
        orderOfTheLosses();
        atMostOneLegInAStep();
        askingIsOnACopy();
    }

    private static SheepdogTrial oneLeg(int x, int y, int endX, int endY, int points) {
        SheepdogTrial trial = new SheepdogTrial();
        trial.setStart(x, y);
        trial.addLeg(endX, endY, points);
        return trial;
    }

    // "All coordinates are integers from 0 to 99."
    private static void coordinatesOfAStep() {
        for (int x : new int[] {0, 1, 98, 99}) {
            for (int y : new int[] {0, 1, 98, 99}) {
                SheepdogTrial trial = oneLeg(50, 50, 50, 50, 9);
                trial.startRun();
                String name = " to " + x + "," + y;
                Check.equal("gatesPassedTo" + name, 0, trial.gatesPassedTo(x, y));
                Check.isTrue("isOffLine" + name, trial.isOffLine(x, y));
                Check.equal("lossOfStep" + name, 1, trial.lossOfStep(x, y, 1));
                Check.equal("walk" + name, 1, trial.walk(x, y, 1));
                Check.equal("the flock" + name, x + "," + y, trial.flockX() + "," + trial.flockY());
            }
        }
        Stage[] all = Stage.values();
        Refusal.outside("walk x", Check.ARGUMENT, 0, 99, (t, n) -> t.walk(n, 5, 5), all);
        Refusal.outside("walk y", Check.ARGUMENT, 0, 99, (t, n) -> t.walk(5, n, 5), all);
        Refusal.outside("walk x and y", Check.ARGUMENT, 0, 99, (t, n) -> t.walk(n, n, 5), Stage.RUNNING);
        Refusal.outside("lossOfStep x", Check.ARGUMENT, 0, 99, (t, n) -> t.lossOfStep(n, 5, 5), all);
        Refusal.outside("lossOfStep y", Check.ARGUMENT, 0, 99, (t, n) -> t.lossOfStep(5, n, 5), all);
        Refusal.outside("gatesPassedTo x", Check.ARGUMENT, 0, 99, (t, n) -> t.gatesPassedTo(n, 5), all);
        Refusal.outside("gatesPassedTo y", Check.ARGUMENT, 0, 99, (t, n) -> t.gatesPassedTo(5, n), all);
        Refusal.outside("isOffLine x", Check.ARGUMENT, 0, 99, (t, n) -> t.isOffLine(n, 5), all);
        Refusal.outside("isOffLine y", Check.ARGUMENT, 0, 99, (t, n) -> t.isOffLine(5, n), all);
    }

    // "seconds: the seconds, 1 to 999"
    private static void secondsOfAStep() {
        for (int seconds : new int[] {1, 2, 127, 128, 255, 256, 511, 998, 999}) {
            SheepdogTrial trial = oneLeg(10, 10, 90, 10, 9);
            trial.setTimeLimit(999);
            trial.startRun();
            Check.equal("lossOfStep in " + seconds, 0, trial.lossOfStep(11, 10, seconds));
            Check.equal("walk in " + seconds, 0, trial.walk(11, 10, seconds));
            Check.equal("time " + seconds, seconds, trial.time(0));
            Check.isTrue("running after " + seconds, trial.isRunning());
        }
        Stage[] all = Stage.values();
        Refusal.outside("walk seconds", Check.ARGUMENT, 1, 999, (t, n) -> t.walk(20, 10, n), all);
        Refusal.outside("lossOfStep seconds", Check.ARGUMENT, 1, 999, (t, n) -> t.lossOfStep(20, 10, n), all);
    }

    // "Throws IllegalStateException if no run is going on"
    private static void noRunIsGoingOn() {
        Stage[] stages = Stage.WITHOUT_A_RUN_GOING_ON;
        for (int edge : new int[] {0, 99}) {
            Refusal.check("walk", Check.STATE, t -> t.walk(edge, edge, 1), stages);
            Refusal.check("walk in 999", Check.STATE, t -> t.walk(edge, edge, 999), stages);
            Refusal.check("lossOfStep", Check.STATE, t -> t.lossOfStep(edge, edge, 1), stages);
            Refusal.check("lossOfStep in 999", Check.STATE, t -> t.lossOfStep(edge, edge, 999), stages);
            Refusal.check("gatesPassedTo", Check.STATE, t -> t.gatesPassedTo(edge, edge), stages);
            Refusal.check("isOffLine", Check.STATE, t -> t.isOffLine(edge, edge), stages);
        }
    }

    // "If several conditions for an exception hold, the exception that is
    // listed first is thrown."
    private static void firstListedException() {
        Stage[] stages = Stage.WITHOUT_A_RUN_GOING_ON;
        Refusal.check("walk, x 100 without a run", Check.ARGUMENT, t -> t.walk(100, 0, 1), stages);
        Refusal.check("walk in 0 without a run", Check.ARGUMENT, t -> t.walk(0, 0, 0), stages);
        Refusal.check("lossOfStep, y -1 without a run", Check.ARGUMENT, t -> t.lossOfStep(0, -1, 1), stages);
        Refusal.check("lossOfStep in 1000 without a run", Check.ARGUMENT, t -> t.lossOfStep(0, 0, 1000), stages);
        Refusal.check("gatesPassedTo, y 100 without a run", Check.ARGUMENT, t -> t.gatesPassedTo(0, 100), stages);
        Refusal.check("isOffLine, x -1 without a run", Check.ARGUMENT, t -> t.isOffLine(-1, 0), stages);
    }

    // "If it is greater than the time limit then, the run ends"
    private static void greaterThanTheTimeLimit() {
        for (int limit : new int[] {60, 61, 127, 128, 255, 256, 600, 998, 999}) {
            limitInOneStep(limit);
            limitInTwoSteps(limit, 1);
            limitInTwoSteps(limit, limit - 1);
        }
        SheepdogTrial initial = oneLeg(10, 10, 90, 10, 9);
        initial.startRun();
        initial.walk(11, 10, 600);
        Check.isTrue("600 seconds with the initial limit", initial.isRunning());
        Check.equal("601 seconds with the initial limit", 9, initial.walk(12, 10, 1));
        Check.isFalse("the run has ended", initial.isRunning());
    }

    private static void limitInOneStep(int limit) {
        SheepdogTrial trial = oneLeg(10, 10, 90, 10, 9);
        trial.setTimeLimit(limit);
        trial.startRun();
        Check.equal("loss at the limit " + limit, 0, trial.lossOfStep(11, 10, limit));
        if (limit < 999) {
            Check.equal("loss beyond the limit " + limit, 9, trial.lossOfStep(11, 10, limit + 1));
            Check.equal("walk beyond the limit " + limit, 9, trial.walk(11, 10, limit + 1));
            Check.isFalse("not running beyond " + limit, trial.isRunning());
            Check.equal("time beyond " + limit, limit + 1, trial.time(0));
            trial.undo();
        }
        Check.equal("walk at the limit " + limit, 0, trial.walk(11, 10, limit));
        Check.isTrue("running at " + limit, trial.isRunning());
        Check.equal("time at " + limit, limit, trial.time(0));
    }

    private static void limitInTwoSteps(int limit, int first) {
        SheepdogTrial trial = oneLeg(10, 10, 90, 10, 9);
        trial.setTimeLimit(limit);
        trial.startRun();
        trial.walk(11, 10, first);
        Check.equal("walk to the limit " + limit, 0, trial.walk(12, 10, limit - first));
        Check.isTrue("running at the limit " + limit, trial.isRunning());
        Check.equal("walk 1 beyond the limit " + limit, 9, trial.walk(13, 10, 1));
        Check.isFalse("not running beyond the limit " + limit, trial.isRunning());
        Check.equal("time 1 beyond the limit " + limit, limit + 1, trial.time(0));
        trial.undo();
        trial.walk(13, 10, 999);
        Check.equal("time 999 beyond the limit " + limit, limit + 999, trial.time(0));
        Check.equal("timeLoss", 9, trial.timeLoss(0));
    }

    // "the flock does not move. Otherwise, second, ..": beyond the limit no
    // gate is passed, no line is left, no leg is completed.
    private static void nothingElseBeyondTheTimeLimit() {
        SheepdogTrial trial = Check.twoLegsRunning();
        trial.walk(29, 10, 600);
        Check.equal("walk through gate 0 and off the line", 30, trial.walk(35, 40, 1));
        Check.isFalse("gate 0", trial.hasPassed(0, 0));
        Check.equal("lineLoss", 0, trial.lineLoss(0));
        Check.equal("timeLoss", 30, trial.timeLoss(0));
        trial.undo();
        Check.equal("the flock", 29, trial.flockX());
        trial.undo();
        trial.walk(50, 11, 590);
        Check.equal("the last leg's points", 10, trial.walk(50, 50, 11));
        Check.isFalse("complete", trial.isComplete(0));
        Check.equal("gateLoss", 0, trial.gateLoss(0));
        Check.equal("timeLoss", 10, trial.timeLoss(0));
        trial.undo();
        Check.equal("at the limit it is complete", 0, trial.walk(51, 48, 10));
        Check.isTrue("complete at the limit", trial.isComplete(0));
    }

    // "it loses all points that it has on the present leg and on all later
    // legs, which is its time loss"
    private static void lossBeyondTheTimeLimit() {
        for (int present = 0; present < 6; present++) {
            SheepdogTrial trial = new SheepdogTrial();
            for (int leg = 0; leg < 6; leg++) {
                trial.addLeg(50, 50, 10 + leg);
            }
            trial.startRun();
            for (int leg = 0; leg < present; leg++) {
                trial.walk(50, 50, 1);
            }
            trial.fault(3);
            int earlier = 10 * present + present * (present - 1) / 2;
            int due = 75 - earlier - 3;
            Check.equal("loss on leg " + present, due, trial.lossOfStep(50, 50, 999));
            Check.equal("walk on leg " + present, due, trial.walk(50, 50, 999));
            Check.equal("timeLoss on leg " + present, due, trial.timeLoss(0));
            Check.equal("score on leg " + present, earlier, trial.score(0));
            Check.equal("faultLoss on leg " + present, 3, trial.faultLoss(0));
        }
        SheepdogTrial empty = oneLeg(10, 10, 90, 10, 9);
        empty.startRun();
        empty.fault(9);
        Check.equal("no points to lose", 0, empty.walk(10, 10, 601));
        Check.equal("timeLoss of nothing", 0, empty.timeLoss(0));
        Check.isFalse("it ends all the same", empty.isRunning());
    }

    // "a gate is passed if the segment of the step and the gate have a point
    // in common"
    private static void gateInCommonWithTheStep() {
        for (int x = 0; x <= 99; x++) {
            SheepdogTrial trial = oneLeg(20, 50, 99, 50, 30);
            trial.addGate(0, 40, 50, 40, 60);
            trial.startRun();
            Check.equal("up to x " + x, x >= 40 ? 1 : 0, trial.gatesPassedTo(x, 50));
            Check.equal("beyond a post at x " + x, 0, trial.gatesPassedTo(x, 49));
            trial.walk(x, 50, 1);
            Check.equal("walked up to x " + x, x >= 40, trial.hasPassed(0, 0));
        }
        for (int y = 0; y <= 99; y++) {
            SheepdogTrial along = oneLeg(40, 30, 99, 50, 30);
            along.addGate(0, 40, 50, 40, 60);
            along.startRun();
            Check.equal("along the gate up to y " + y, y >= 50 ? 1 : 0, along.gatesPassedTo(40, y));
        }
        SheepdogTrial corner = oneLeg(0, 0, 99, 0, 30);
        corner.addGate(0, 50, 49, 99, 0);
        corner.startRun();
        Check.equal("across the diagonal to its post", 1, corner.gatesPassedTo(50, 49));
        Check.equal("past the post", 0, corner.gatesPassedTo(50, 50));
        Check.equal("to the middle of the gate", 1, corner.gatesPassedTo(60, 39));
        Check.equal("1 before the middle", 0, corner.gatesPassedTo(60, 38));
    }

    // "the gates of the present leg that are not passed yet are looked at in
    // the order of their numbers .. and looking ends with the first gate that
    // is not passed by this"
    private static void gatesInTheOrderOfTheirNumbers() {
        for (int missing = 0; missing <= 6; missing++) {
            SheepdogTrial trial = oneLeg(0, 50, 99, 50, 30);
            for (int gate = 0; gate < 6; gate++) {
                int x = gate == missing ? 90 : 60 - 5 * gate;
                trial.addGate(0, x, 45, x, 55);
            }
            trial.startRun();
            Check.equal("gates before missing gate " + missing, missing, trial.gatesPassedTo(70, 50));
            trial.walk(70, 50, 1);
            for (int gate = 0; gate < 6; gate++) {
                Check.equal("gate " + gate + ", missing " + missing, gate < missing, trial.hasPassed(0, gate));
            }
            Check.equal("all the others on the way back", 0, trial.gatesPassedTo(0, 50));
            Check.equal("the missing gate alone", missing < 6 ? 1 : 0, trial.gatesPassedTo(90, 50));
        }
        otherLegsAndPassedGates();
    }

    private static void otherLegsAndPassedGates() {
        SheepdogTrial trial = oneLeg(0, 50, 60, 50, 30);
        trial.addLeg(90, 50, 30);
        trial.addGate(1, 20, 45, 20, 55);
        trial.addGate(0, 20, 45, 20, 55);
        trial.addGate(1, 30, 45, 30, 55);
        trial.addGate(0, 30, 45, 30, 55);
        trial.startRun();
        Check.equal("gates of leg 0 only", 2, trial.gatesPassedTo(50, 50));
        trial.walk(25, 50, 1);
        Check.equal("a passed gate does not count again", 0, trial.gatesPassedTo(15, 50));
        Check.equal("a passed gate does not end the looking", 1, trial.gatesPassedTo(31, 50));
        trial.walk(60, 50, 1);
        Check.equal("on leg 1", 1, trial.presentLeg());
        Check.equal("gates of leg 1 only", 2, trial.gatesPassedTo(0, 50));
    }

    // A step whose segment is one point.
    private static void standingStill() {
        for (int y = 39; y <= 61; y++) {
            SheepdogTrial trial = oneLeg(50, y, 99, y, 30);
            trial.addGate(0, 50, 40, 50, 60);
            trial.startRun();
            boolean touches = y >= 40 && y <= 60;
            Check.equal("standing at y " + y, touches ? 1 : 0, trial.gatesPassedTo(50, y));
            Check.equal("walk to the same point", 0, trial.walk(50, y, 1));
            Check.equal("passed at y " + y, touches, trial.hasPassed(0, 0));
            Check.equal("time", 1, trial.time(0));
        }
    }

    // "if the distance of the new position from the nearest point of the
    // present leg is greater than the tolerance, 1 point is deducted"
    private static void greaterThanTheTolerance() {
        for (int tolerance = 1; tolerance <= 20; tolerance++) {
            for (int dx = -22; dx <= 22; dx++) {
                SheepdogTrial trial = oneLeg(50, 50, 50, 50, 9);
                trial.setTolerance(tolerance);
                trial.startRun();
                for (int dy = -22; dy <= 22; dy++) {
                    boolean due = dx * dx + dy * dy > tolerance * tolerance;
                    Check.equal("tolerance " + tolerance + " at " + dx + "," + dy, due,
                            trial.isOffLine(50 + dx, 50 + dy));
                    Check.equal("loss with " + tolerance + " at " + dx + "," + dy, due ? 1 : 0,
                            trial.lossOfStep(50 + dx, 50 + dy, 1));
                }
            }
        }
    }

    // Aside of level, upright and slanting legs; a leg that goes 40 and 30
    // has its points at 4 and 3 aside exactly 5 away.
    private static void greaterThanTheToleranceAside() {
        for (int tolerance = 1; tolerance <= 20; tolerance++) {
            SheepdogTrial level = oneLeg(25, 50, 80, 50, 30);
            level.setTolerance(tolerance);
            level.startRun();
            SheepdogTrial upright = oneLeg(50, 80, 50, 25, 30);
            upright.setTolerance(tolerance);
            upright.startRun();
            for (int way = -1; way <= 1; way += 2) {
                Check.isFalse("level, at", level.isOffLine(50, 50 + way * tolerance));
                Check.isTrue("level, beyond", level.isOffLine(50, 50 + way * (tolerance + 1)));
                Check.isFalse("upright, at", upright.isOffLine(50 + way * tolerance, 50));
                Check.isTrue("upright, beyond", upright.isOffLine(50 + way * (tolerance + 1), 50));
                Check.equal("walk at", 0, level.walk(50, 50 + way * tolerance, 1));
                Check.equal("walk beyond", 1, level.walk(50, 50 + way * (tolerance + 1), 1));
            }
            Check.isFalse("level, before the begin", level.isOffLine(25 - tolerance, 50));
            Check.isTrue("level, farther before the begin", level.isOffLine(24 - tolerance, 50));
            Check.isTrue("level, before and aside of the begin", level.isOffLine(25 - tolerance, 51));
            Check.isFalse("upright, behind the end", upright.isOffLine(50, 25 - tolerance));
            Check.isTrue("upright, farther behind the end", upright.isOffLine(50, 24 - tolerance));
            Check.isTrue("upright, behind and aside of the end", upright.isOffLine(51, 25 - tolerance));
        }
        for (int times = 1; times <= 4; times++) {
            SheepdogTrial trial = oneLeg(30, 30, 70, 60, 30);
            trial.setTolerance(5 * times);
            trial.startRun();
            Check.isFalse("slanting, at " + 5 * times, trial.isOffLine(50 - 3 * times, 45 + 4 * times));
            Check.isTrue("slanting, beyond", trial.isOffLine(50 - 3 * times, 46 + 4 * times));
            Check.isFalse("slanting, the other side", trial.isOffLine(50 + 3 * times, 45 - 4 * times));
            Check.isTrue("slanting, beyond on the other side", trial.isOffLine(51 + 3 * times, 45 - 4 * times));
        }
    }

    // "if the distance of the new position from the end of the present leg is
    // at most 3, the leg is completed"
    private static void atMostThreeFromTheEnd() {
        for (int dx = -4; dx <= 4; dx++) {
            for (int dy = -4; dy <= 4; dy++) {
                SheepdogTrial trial = oneLeg(20, 50, 50, 50, 9);
                trial.addLeg(90, 50, 9);
                trial.startRun();
                trial.walk(50 + dx, 50 + dy, 1);
                boolean near = dx * dx + dy * dy <= 9;
                Check.equal("leg 0 at " + dx + "," + dy, near ? 1 : 0, trial.presentLeg());
                trial.undo();
                trial.walk(50, 50, 1);
                trial.walk(90 + dx, 50 + dy, 1);
                Check.equal("complete at " + dx + "," + dy, near, trial.isComplete(0));
                Check.equal("running at " + dx + "," + dy, !near, trial.isRunning());
            }
        }
    }

    // "for each of its gates that is not passed, 5 points are deducted on this
    // leg, which belong to the gate loss", "but not more than it has"
    private static void gatesThatAreNotPassed() {
        for (int gates = 0; gates <= 6; gates++) {
            for (int points = 1; points <= 30; points++) {
                SheepdogTrial trial = oneLeg(10, 10, 50, 10, points);
                trial.addLeg(90, 10, 30);
                for (int gate = 0; gate < gates; gate++) {
                    trial.addGate(0, gate, 90, gate, 99);
                }
                trial.startRun();
                int due = Math.min(points, 5 * gates);
                Check.equal(gates + " gates, " + points + " points", due, trial.walk(50, 10, 1));
                Check.equal("gateLoss", due, trial.gateLoss(0));
                Check.equal("points left", points - due, trial.pointsOn(0, 0));
                Check.equal("leg 1 keeps its points", 30, trial.pointsOn(0, 1));
            }
        }
        SheepdogTrial other = oneLeg(10, 10, 50, 10, 30);
        other.addLeg(90, 10, 30);
        other.addGate(1, 1, 90, 2, 90);
        other.addGate(0, 20, 5, 20, 15);
        other.startRun();
        Check.equal("a gate of leg 1 is not missed on leg 0", 0, other.walk(50, 10, 1));
        Check.equal("it is missed on leg 1", 5, other.walk(90, 10, 1));
    }

    // "Second ..", "Third ..", "Fourth ..": with few points left, the line
    // takes its point first; a gate at the end is passed before.
    private static void orderOfTheLosses() {
        for (int left = 1; left <= 7; left++) {
            SheepdogTrial trial = oneLeg(10, 10, 50, 10, left);
            trial.setTolerance(1);
            trial.addGate(0, 1, 90, 2, 90);
            trial.startRun();
            Check.equal("loss off the line at the end of " + left, Math.min(left, 6), trial.walk(50, 12, 1));
            Check.equal("lineLoss of " + left, 1, trial.lineLoss(0));
            Check.equal("gateLoss of " + left, Math.min(left - 1, 5), trial.gateLoss(0));
            Check.isTrue("complete", trial.isComplete(0));
        }
        SheepdogTrial end = oneLeg(10, 10, 50, 10, 9);
        end.addGate(0, 50, 10, 50, 20);
        end.startRun();
        Check.equal("1 before the gate at the end", 5, end.lossOfStep(49, 10, 1));
        Check.equal("on the gate at the end", 0, end.lossOfStep(50, 10, 1));
    }

    // "At most one leg is completed in a step."
    private static void atMostOneLegInAStep() {
        SheepdogTrial trial = new SheepdogTrial();
        trial.setStart(50, 50);
        for (int leg = 0; leg < 6; leg++) {
            trial.addLeg(50, 50, 5);
        }
        trial.startRun();
        for (int leg = 0; leg < 6; leg++) {
            Check.equal("presentLeg before step " + leg, leg, trial.presentLeg());
            Check.isFalse("complete before step " + leg, trial.isComplete(0));
            trial.walk(50, 50, 1);
        }
        Check.isTrue("complete after six steps", trial.isComplete(0));
        Check.isFalse("running after six steps", trial.isRunning());
        Check.equal("time", 6, trial.time(0));
    }

    // "Returns how many points would be lost in a step, by making it on a copy
    // of the trial."
    private static void askingIsOnACopy() {
        for (Stage stage : Stage.WITH_A_RUN_GOING_ON) {
            for (Probe probe : Probe.values()) {
                SheepdogTrial trial = stage.make();
                trial.lossOfStep(0, 0, 1);
                trial.lossOfStep(50, 50, 1);
                trial.lossOfStep(20, 90, 999);
                trial.gatesPassedTo(99, 50);
                trial.isOffLine(99, 99);
                Check.equal("asking on " + stage + " changes nothing (" + probe + ")", stage.portrait(probe),
                        probe.of(trial));
            }
            int due = stage.make().walk(50, 50, 1);
            Check.equal("lossOfStep and walk on " + stage, due, stage.make().lossOfStep(50, 50, 1));
        }
    }
}
