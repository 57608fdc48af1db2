/** Promises 8 and 24 to 26: steps, and what they would do. */
final class StepTest {
    private StepTest() {
    }

    static void run() {
        wrongArguments();
        gatesInTheirOrder();
        distanceFromTheLeg();
        everyPlaceAroundSmallLegs();
        endOfTheLeg();
        orderWithinAStep();
        timeLimit();
        lossesThatAreNotThere();
        lossOfStep();
    }

    private static void wrongArguments() {
        SheepdogTrial trial = Check.twoLegs();
        Check.refused("walk without a run", Check.STATE, () -> trial.walk(1, 1, 1));
        Check.refused("gatesPassedTo without a run", Check.STATE, () -> trial.gatesPassedTo(1, 1));
        Check.refused("isOffLine without a run", Check.STATE, () -> trial.isOffLine(1, 1));
        Check.refused("lossOfStep without a run", Check.STATE, () -> trial.lossOfStep(1, 1, 1));
        for (int round = 0; round < 2; round++) {
            int[][] wrong = {{-1, 0, 1}, {100, 0, 1}, {0, -1, 1}, {0, 100, 1}};
            for (int[] step : wrong) {
                Check.refused("walk", Check.ARGUMENT, () -> trial.walk(step[0], step[1], step[2]));
                Check.refused("lossOfStep", Check.ARGUMENT, () -> trial.lossOfStep(step[0], step[1], step[2]));
                Check.refused("gatesPassedTo", Check.ARGUMENT, () -> trial.gatesPassedTo(step[0], step[1]));
                Check.refused("isOffLine", Check.ARGUMENT, () -> trial.isOffLine(step[0], step[1]));
            }
            Check.refused("walk in 0 seconds", Check.ARGUMENT, () -> trial.walk(1, 1, 0));
            Check.refused("walk in 1000 seconds", Check.ARGUMENT, () -> trial.walk(1, 1, 1000));
            Check.refused("lossOfStep in 0 seconds", Check.ARGUMENT, () -> trial.lossOfStep(1, 1, 0));
            Check.refused("lossOfStep in 1000 seconds", Check.ARGUMENT, () -> trial.lossOfStep(1, 1, 1000));
            if (round == 0) {
                trial.startRun();
            }
        }
        Check.equal("time after refusals", 0, trial.time(0));
        Check.equal("x after refusals", 10, trial.flockX());
        trial.retire();
        Check.refused("walk after the run", Check.STATE, () -> trial.walk(1, 1, 1));
    }

    private static void gatesInTheirOrder() {
        SheepdogTrial trial = new SheepdogTrial();
        trial.addLeg(90, 0, 30);
        trial.addLeg(90, 90, 30);
        trial.addGate(0, 20, 0, 20, 9);
        trial.addGate(1, 25, 0, 25, 9);
        trial.addGate(0, 40, 0, 40, 9);
        trial.addGate(0, 30, 0, 30, 9);
        trial.startRun();
        Check.equal("no gate", 0, trial.gatesPassedTo(19, 5));
        Check.equal("touching a gate", 1, trial.gatesPassedTo(20, 9));
        Check.equal("beyond its post", 0, trial.gatesPassedTo(40, 21));
        Check.equal("gate 3 waits for gate 2", 1, trial.gatesPassedTo(35, 0));
        Check.equal("gates 0, 2 and 3", 3, trial.gatesPassedTo(40, 0));
        Check.equal("asking passes nothing", 0, trial.nextGate());
        trial.walk(35, 0, 10);
        Check.isTrue("gate 0", trial.hasPassed(0, 0));
        Check.isFalse("gate 1 is on the other leg", trial.hasPassed(0, 1));
        Check.isFalse("gate 2", trial.hasPassed(0, 2));
        Check.isFalse("gate 3", trial.hasPassed(0, 3));
        Check.equal("standing still before gate 2", 0, trial.gatesPassedTo(35, 0));
        trial.walk(40, 5, 10);
        Check.isTrue("gate 2 touched", trial.hasPassed(0, 2));
        Check.isFalse("gate 3 is behind", trial.hasPassed(0, 3));
        Check.equal("back over gate 3", 1, trial.gatesPassedTo(30, 0));
        trial.walk(30, 0, 10);
        Check.refused("no gate left", Check.ELEMENT, trial::nextGate);
        Check.equal("gates passed before do not count", 0, trial.gatesPassedTo(10, 0));
        SheepdogTrial onGate = new SheepdogTrial();
        onGate.setStart(50, 50);
        onGate.addLeg(90, 50, 30);
        onGate.addGate(0, 50, 40, 50, 60);
        onGate.startRun();
        Check.equal("a step of one point on a gate", 1, onGate.gatesPassedTo(50, 50));
        Check.equal("a step along a gate", 1, onGate.gatesPassedTo(50, 99));
    }

    private static void distanceFromTheLeg() {
        SheepdogTrial trial = new SheepdogTrial();
        trial.setStart(20, 20);
        trial.addLeg(60, 50, 30);
        trial.startRun();
        Check.isFalse("on the leg", trial.isOffLine(40, 35));
        Check.isFalse("5 beside the leg", trial.isOffLine(37, 39));
        Check.isTrue("5.2 beside the leg", trial.isOffLine(38, 40));
        Check.isFalse("5 before the begin", trial.isOffLine(16, 17));
        Check.isTrue("5.1 before the begin", trial.isOffLine(19, 15));
        Check.isFalse("5 behind the end", trial.isOffLine(64, 53));
        Check.isTrue("5.1 behind the end", trial.isOffLine(65, 51));
        Check.equal("walking off the line", 1, trial.walk(38, 40, 1));
        Check.equal("walking 5 beside the line", 0, trial.walk(37, 39, 1));
        Check.equal("line loss", 1, trial.lineLoss(0));
        SheepdogTrial second = new SheepdogTrial();
        second.setStart(90, 10);
        second.addLeg(20, 20, 30);
        second.addLeg(60, 50, 30);
        second.startRun();
        second.walk(20, 20, 1);
        Check.isFalse("5 beside leg 1", second.isOffLine(37, 39));
        Check.isTrue("5.2 beside leg 1", second.isOffLine(38, 40));
        Check.isFalse("5 before the begin of leg 1", second.isOffLine(16, 17));
        Check.isTrue("on leg 0", second.isOffLine(55, 15));
        SheepdogTrial point = new SheepdogTrial();
        point.setTolerance(20);
        point.addLeg(0, 0, 30);
        point.startRun();
        Check.isFalse("20 from a leg of one point", point.isOffLine(12, 16));
        Check.isTrue("more than 20 from a leg of one point", point.isOffLine(13, 16));
    }

    // Legs between the points of a grid of 4 by 4 are compared with the model.
    private static void everyPlaceAroundSmallLegs() {
        for (int places = 0; places < 16 * 16; places++) {
            SheepdogTrial trial = new SheepdogTrial();
            Model model = new Model();
            int tolerance = 1 + places % 3;
            int beginX = 3 + places % 4;
            int beginY = 3 + places / 4 % 4;
            int endX = 3 + places / 16 % 4;
            int endY = 3 + places / 64;
            trial.setTolerance(tolerance);
            model.setTolerance(tolerance);
            trial.setStart(beginX, beginY);
            model.setStart(beginX, beginY);
            trial.addLeg(endX, endY, 5);
            model.addLeg(endX, endY, 5);
            trial.startRun();
            model.startRun();
            for (int place = 0; place < 100; place++) {
                int x = place % 10;
                int y = place / 10;
                Check.equal("legs " + places + ", place " + x + "," + y, model.isOffLine(x, y), trial.isOffLine(x, y));
            }
        }
    }

    private static void endOfTheLeg() {
        SheepdogTrial trial = Check.twoLegsRunning();
        trial.walk(47, 11, 1);
        Check.equal("3.2 from the end", 0, trial.presentLeg());
        Check.equal("3 from the end", 0, trial.walk(50, 13, 1));
        Check.equal("the next leg", 1, trial.presentLeg());
        Check.isTrue("the run goes on", trial.isRunning());
        Check.equal("3 before the end of the last leg", 0, trial.walk(50, 47, 1));
        Check.isFalse("the run has ended", trial.isRunning());
        Check.isTrue("the run is complete", trial.isComplete(0));
        SheepdogTrial same = new SheepdogTrial();
        same.addLeg(0, 0, 3);
        same.addLeg(0, 0, 3);
        same.startRun();
        same.walk(0, 0, 1);
        Check.equal("one leg a step at most", 1, same.presentLeg());
        same.walk(0, 0, 1);
        Check.isTrue("complete with the second step", same.isComplete(0));
        SheepdogTrial missed = new SheepdogTrial();
        missed.addLeg(20, 0, 30);
        missed.addLeg(40, 0, 30);
        missed.addGate(0, 5, 50, 5, 60);
        missed.addGate(0, 6, 50, 6, 60);
        missed.addGate(1, 7, 50, 7, 60);
        missed.startRun();
        Check.equal("two gates missed", 10, missed.walk(20, 0, 1));
        Check.equal("gate loss", 10, missed.gateLoss(0));
        Check.equal("points on leg 0", 20, missed.pointsOn(0, 0));
        Check.equal("points on leg 1", 30, missed.pointsOn(0, 1));
    }

    private static void orderWithinAStep() {
        SheepdogTrial trial = new SheepdogTrial();
        trial.setTolerance(1);
        trial.addLeg(20, 0, 6);
        trial.addGate(0, 5, 50, 5, 60);
        trial.addGate(0, 6, 50, 6, 60);
        trial.startRun();
        Check.equal("off the line and at the end", 6, trial.walk(20, 3, 1));
        Check.equal("line loss comes first", 1, trial.lineLoss(0));
        Check.equal("gate loss takes the rest", 5, trial.gateLoss(0));
        SheepdogTrial last = new SheepdogTrial();
        last.addLeg(20, 0, 9);
        last.addGate(0, 20, 0, 20, 9);
        last.startRun();
        Check.equal("a gate at the end is passed before the leg is completed", 0, last.walk(20, 0, 1));
    }

    private static void timeLimit() {
        SheepdogTrial trial = Check.twoLegs();
        trial.setTimeLimit(60);
        trial.startRun();
        Check.equal("at the limit", 0, trial.walk(29, 10, 60));
        Check.isTrue("at the limit the run goes on", trial.isRunning());
        Check.equal("a gate after the limit", 1, trial.gatesPassedTo(40, 10));
        Check.equal("beyond the limit", 30, trial.walk(40, 10, 1));
        Check.isFalse("beyond the limit the run ends", trial.isRunning());
        Check.isFalse("it is not complete", trial.isComplete(0));
        Check.isFalse("its gate is not passed", trial.hasPassed(0, 0));
        Check.equal("its time", 61, trial.time(0));
        Check.equal("its time loss", 30, trial.timeLoss(0));
        trial.startRun();
        trial.walk(50, 10, 30);
        Check.equal("the earlier leg keeps its points", 10, trial.walk(0, 99, 999));
        Check.equal("points on leg 0", 20, trial.pointsOn(1, 0));
        Check.equal("time of the second run", 1029, trial.time(1));
        Check.equal("no line loss beyond the limit", 0, trial.lineLoss(1));
    }

    private static void lossesThatAreNotThere() {
        SheepdogTrial trial = new SheepdogTrial();
        trial.addLeg(50, 0, 1);
        trial.addLeg(50, 50, 30);
        trial.addGate(0, 5, 50, 5, 60);
        trial.startRun();
        Check.equal("the only point", 1, trial.walk(20, 20, 1));
        Check.equal("no point left for the line", 0, trial.walk(21, 20, 1));
        Check.equal("no point left for the gate", 0, trial.walk(50, 0, 1));
        Check.equal("line loss", 1, trial.lineLoss(0));
        Check.equal("gate loss", 0, trial.gateLoss(0));
        Check.equal("the next leg has all", 30, trial.pointsOn(0, 1));
    }

    private static void lossOfStep() {
        SheepdogTrial trial = Check.twoLegsRunning();
        Check.equal("loss of a good step", 0, trial.lossOfStep(20, 10, 1));
        Check.equal("loss of leaving the line", 1, trial.lossOfStep(20, 16, 1));
        Check.equal("walking off the line", 1, trial.walk(29, 16, 1));
        Check.equal("loss at the end without the gate", 5, trial.lossOfStep(50, 10, 1));
        Check.equal("loss beyond the limit", 29, trial.lossOfStep(50, 10, 600));
        Check.equal("the time stays", 1, trial.time(0));
        Check.equal("the score stays", 29, trial.score(0));
        Check.equal("x stays", 29, trial.flockX());
        Check.equal("the leg stays", 0, trial.presentLeg());
        Check.isTrue("the run stays", trial.isRunning());
        Check.equal("asking is no change", 6, trial.undo());
    }
}
