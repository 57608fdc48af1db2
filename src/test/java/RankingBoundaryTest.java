/** The edges of promises 38 to 43, sentence by sentence. */
final class RankingBoundaryTest {
    private static final int LEGS = 6;

    private RankingBoundaryTest() {
    }

    static void run() {
        ranksThatAreThere();
        runsThatAreThere();
        scoreBeforeAll();
        equalScores();
        equalPoints();
        equalTimes();
        runThatIsGoingOn();
        bestOnLegs();
        noRuns();
        meanScores();
        passRates();
        gateIndexes();
        consistent();
    }

    private static SheepdogTrial sixLegs() {
        SheepdogTrial trial = new SheepdogTrial();
        for (int leg = 0; leg < LEGS; leg++) {
            trial.addLeg(50, 50, 20);
        }
        return trial;
    }

    /** Makes a complete run with a fault on each leg, and some seconds on the first one. */
    private static void finish(SheepdogTrial trial, int seconds, int... faults) {
        trial.startRun();
        for (int leg = 0; leg < LEGS; leg++) {
            if (leg < faults.length && faults[leg] > 0) {
                trial.fault(faults[leg]);
            }
            trial.walk(50, 50, leg == 0 ? seconds : 1);
        }
    }

    private static void expectRanking(String what, SheepdogTrial trial, int... order) {
        for (int rank = 0; rank < order.length; rank++) {
            Check.equal(what + ": runAt " + rank, order[rank], trial.runAt(rank));
            Check.equal(what + ": rankOf " + order[rank], rank, trial.rankOf(order[rank]));
        }
        Check.isTrue(what + ": isConsistent", trial.isConsistent());
    }

    // "Throws NoSuchElementException if there is no such rank"
    private static void ranksThatAreThere() {
        for (Stage stage : Stage.values()) {
            int runs = stage.make().runs();
            Refusal.outside("runAt", Check.ELEMENT, 0, runs - 1, SheepdogTrial::runAt, stage);
        }
        SheepdogTrial trial = Check.twoLegs();
        for (int runs = 0; runs <= 8; runs++) {
            int behind = runs;
            Check.refused("runAt " + behind, Check.ELEMENT, () -> trial.runAt(behind));
            for (int rank = 0; rank < runs; rank++) {
                Check.equal("runAt " + rank + " of " + runs, rank, trial.runAt(rank));
            }
            if (runs < 8) {
                trial.startRun();
                trial.retire();
            }
        }
    }

    // "Throws IndexOutOfBoundsException if there is no such run"
    private static void runsThatAreThere() {
        for (Stage stage : Stage.values()) {
            SheepdogTrial trial = stage.make();
            Refusal.index("rankOf", trial.runs(), SheepdogTrial::rankOf, stage);
            for (int run = 0; run < trial.runs(); run++) {
                Check.equal("rankOf and runAt on " + stage, run, trial.runAt(trial.rankOf(run)));
            }
        }
    }

    // "by their scores in descending order": before points, times and numbers.
    private static void scoreBeforeAll() {
        SheepdogTrial trial = sixLegs();
        finish(trial, 1, 0, 9, 9);
        finish(trial, 500, 8, 9);
        expectRanking("1 point more, but less on leg 0 and later", trial, 1, 0);
        SheepdogTrial two = sixLegs();
        finish(two, 9, 1);
        finish(two, 1, 2);
        expectRanking("1 point less, but earlier", two, 0, 1);
    }

    // "if these are equal, by their points on leg 0 in descending order, then
    // on leg 1, and so on"
    private static void equalScores() {
        for (int leg = 0; leg < LEGS - 1; leg++) {
            int[] here = new int[LEGS];
            here[leg] = 1;
            int[] next = new int[LEGS];
            next[leg + 1] = 1;
            int[] last = new int[LEGS];
            last[LEGS - 1] = 1;
            SheepdogTrial trial = sixLegs();
            finish(trial, 1, here);
            finish(trial, 9, next);
            expectRanking("more points on leg " + leg + ", but later", trial, 1, 0);
            finish(trial, 9, last);
            int second = leg == LEGS - 2 ? 2 : 1;
            expectRanking("the loss on the last leg", trial, 3 - second, second, 0);
        }
    }

    // "then by their times in ascending order"
    private static void equalPoints() {
        SheepdogTrial trial = sixLegs();
        finish(trial, 11, 1, 2, 3);
        finish(trial, 10, 1, 2, 3);
        finish(trial, 12, 1, 2, 3);
        finish(trial, 1, 1, 3, 2);
        finish(trial, 500, 1, 1, 4);
        expectRanking("a second less", trial, 4, 1, 0, 2, 3);
    }

    // "and then by their numbers in ascending order"
    private static void equalTimes() {
        SheepdogTrial trial = sixLegs();
        for (int run = 0; run < 8; run++) {
            finish(trial, 5, 1);
        }
        expectRanking("eight equal runs", trial, 0, 1, 2, 3, 4, 5, 6, 7);
        SheepdogTrial down = sixLegs();
        for (int run = 0; run < 8; run++) {
            finish(down, 5, 9 - run);
        }
        expectRanking("each better than the one before", down, 7, 6, 5, 4, 3, 2, 1, 0);
        SheepdogTrial mixed = sixLegs();
        for (int run = 0; run < 8; run++) {
            finish(mixed, 5 + run % 2, run / 4);
        }
        expectRanking("pairs of equal runs", mixed, 0, 2, 1, 3, 4, 6, 5, 7);
    }

    // "Runs are ranked, including the run that is going on"
    private static void runThatIsGoingOn() {
        SheepdogTrial trial = sixLegs();
        trial.startRun();
        expectRanking("the only run", trial, 0);
        trial.retire();
        trial.startRun();
        expectRanking("the run that is going on has more", trial, 1, 0);
        for (int fault = 0; fault < 3; fault++) {
            trial.fault(9);
        }
        for (int leg = 0; leg < LEGS - 1; leg++) {
            trial.walk(50, 50, 1);
            trial.fault(9);
            trial.fault(9);
            expectRanking("while it has points", trial, 1, 0);
            trial.fault(2);
        }
        Check.isTrue("it is going on", trial.isRunning());
        expectRanking("without points, the time", trial, 0, 1);
    }

    // "Returns the run with the most points on a leg, and of several the one
    // with the smallest number."
    private static void bestOnLegs() {
        for (Stage stage : Stage.values()) {
            Refusal.index("bestOn", stage.make().legs(), SheepdogTrial::bestOn, stage);
        }
        SheepdogTrial trial = sixLegs();
        for (int run = 0; run < LEGS; run++) {
            int[] faults = {2, 2, 2, 2, 2, 2};
            faults[run] = 1;
            finish(trial, 1, faults);
        }
        for (int leg = 0; leg < LEGS; leg++) {
            Check.equal("the best on leg " + leg, leg, trial.bestOn(leg));
        }
        finish(trial, 1, 1, 1, 1, 1, 1, 1);
        for (int leg = 0; leg < LEGS; leg++) {
            Check.equal("the first of the best on leg " + leg, leg, trial.bestOn(leg));
        }
        trial.startRun();
        for (int leg = 0; leg < LEGS; leg++) {
            Check.equal("the run that is going on, on leg " + leg, 7, trial.bestOn(leg));
        }
        SheepdogTrial zero = sixLegs();
        zero.startRun();
        zero.retire();
        zero.startRun();
        zero.retire();
        Check.equal("the first of two without points", 0, zero.bestOn(5));
    }

    // "Throws .. if there are no runs", behind the index that is listed first.
    private static void noRuns() {
        Stage[] courses = {Stage.COURSE, Stage.FULL_COURSE};
        for (int leg = 0; leg < 2; leg++) {
            int present = leg;
            Refusal.check("bestOn without runs", Check.ELEMENT, t -> t.bestOn(present), courses);
            Refusal.check("passRate without runs", Check.ARITHMETIC, t -> t.passRate(present), courses);
        }
        Refusal.check("bestOn 5 without runs", Check.ELEMENT, t -> t.bestOn(5), Stage.FULL_COURSE);
        Refusal.check("passRate 5 without runs", Check.ARITHMETIC, t -> t.passRate(5), Stage.FULL_COURSE);
        Refusal.check("bestOn 2: the leg first", Check.INDEX, t -> t.bestOn(2), Stage.COURSE);
        Refusal.check("passRate 2: the gate first", Check.INDEX, t -> t.passRate(2), Stage.COURSE);
        Refusal.check("bestOn 0 without legs", Check.INDEX, t -> t.bestOn(0), Stage.NEW);
        Refusal.check("passRate 0 without gates", Check.INDEX, t -> t.passRate(0), Stage.NEW);
        Refusal.check("meanScore", Check.ARITHMETIC, SheepdogTrial::meanScore, Stage.NEW, Stage.COURSE,
                Stage.FULL_COURSE);
        Refusal.check("runAt 0", Check.ELEMENT, t -> t.runAt(0), Stage.NEW, Stage.COURSE, Stage.FULL_COURSE);
        Refusal.check("rankOf 0", Check.INDEX, t -> t.rankOf(0), Stage.NEW, Stage.COURSE, Stage.FULL_COURSE);
    }

    // "the sum of the scores divided by the number of runs, both converted to
    // double", of 1 to 8 runs.
    private static void meanScores() {
        SheepdogTrial trial = sixLegs();
        int sum = 0;
        for (int run = 0; run < 8; run++) {
            finish(trial, 1, run, 9);
            sum += 111 - run;
            Check.equal("meanScore of " + (run + 1), (double) sum / (double) (run + 1), trial.meanScore());
        }
        SheepdogTrial nothing = sixLegs();
        nothing.startRun();
        Check.equal("meanScore of all points", 120.0, nothing.meanScore());
        nothing.retire();
        Check.equal("meanScore of nothing", 0.0, nothing.meanScore());
        nothing.undo();
        nothing.undo();
        Check.refused("meanScore after the run is undone", Check.ARITHMETIC, nothing::meanScore);
    }

    // "the quotient of the number of runs that have passed a gate and the
    // number of runs, both converted to float"
    private static void passRates() {
        for (int through = 0; through <= 8; through++) {
            SheepdogTrial trial = Check.twoLegs();
            int passed = 0;
            for (int run = 0; run < 8; run++) {
                trial.startRun();
                Check.equal("passRate at a start", (float) passed / (float) (run + 1), trial.passRate(0));
                if (run < through) {
                    trial.walk(30, 10, 1);
                    passed++;
                }
                Check.equal("passRate " + through, (float) passed / (float) (run + 1), trial.passRate(0));
                trial.retire();
            }
            Check.equal("passRate of the other gate", 0.0f, trial.passRate(1));
        }
    }

    // "Throws IndexOutOfBoundsException if there is no such gate"
    private static void gateIndexes() {
        for (Stage stage : Stage.values()) {
            Refusal.index("passRate", stage.make().gates(), SheepdogTrial::passRate, stage);
        }
        Check.equal("the last gate", 0.0f, Stage.FULL_RUNNING.make().passRate(5));
    }

    // "Returns true if the invariants hold.": without runs, with one, with 8.
    private static void consistent() {
        for (Stage stage : Stage.values()) {
            SheepdogTrial trial = stage.make();
            Check.isTrue("isConsistent on " + stage, trial.isConsistent());
            for (int change = 0; change < 8; change++) {
                Check.outcome(trial::undo);
                Check.isTrue("isConsistent after undo on " + stage, trial.isConsistent());
            }
        }
    }
}
