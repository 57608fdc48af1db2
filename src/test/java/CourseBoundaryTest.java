/** The edges of promises 1 to 6 and 11 to 18, sentence by sentence. */
final class CourseBoundaryTest {
    private static final int[] EDGES = {0, 1, 98, 99};

    private CourseBoundaryTest() {
    }

    static void run() {
        newObjectIsEmpty();
        coordinatesOfTheStart();
        coordinatesOfALeg();
        coordinatesOfAGate();
        pointsOfALeg();
        atMostSixLegs();
        legOfOnePoint();
        beginOfALeg();
        legOfAGate();
        atMostSixGates();
        differentPosts();
        tolerances();
        timeLimits();
        courseBeforeTheFirstRun();
        courseAfterTheFirstRun();
        firstListedException();
        legIndexes();
        gateIndexes();
        sumOfPoints();
        gateAndLegInCommon();
    }

    // "Creates a trial without legs, gates and runs."
    private static void newObjectIsEmpty() {
        SheepdogTrial trial = new SheepdogTrial();
        Check.equal("new: legs", 0, trial.legs());
        Check.equal("new: gates", 0, trial.gates());
        Check.equal("new: runs", 0, trial.runs());
        Check.equal("new: totalPoints", 0, trial.totalPoints());
        Check.equal("new: save", 0, trial.save());
        Check.equal("new: restore", 0, trial.restore());
        Check.equal("new: writeRanking", 0, trial.writeRanking());
        Refusal.check("new: startRun", Check.STATE, SheepdogTrial::startRun, Stage.NEW);
        Refusal.check("new: addGate", Check.INDEX, t -> t.addGate(0, 1, 1, 2, 2), Stage.NEW);
        Refusal.check("new: undo", Check.STATE, SheepdogTrial::undo, Stage.NEW);
        Refusal.check("new: restore", Check.STATE, SheepdogTrial::restore, Stage.NEW);
    }

    // "All coordinates are integers from 0 to 99."; the start "is a point,
    // initially x 0 and y 0".
    private static void coordinatesOfTheStart() {
        SheepdogTrial initial = new SheepdogTrial();
        initial.addLeg(9, 9, 1);
        initial.startRun();
        Check.equal("the initial start", "0,0", flock(initial));
        for (int x : EDGES) {
            for (int y : EDGES) {
                SheepdogTrial trial = new SheepdogTrial();
                Check.equal("setStart " + x + "," + y, 0, trial.setStart(x, y));
                trial.addLeg(9, 9, 1);
                trial.startRun();
                Check.equal("the start " + x + "," + y, x + "," + y, flock(trial));
            }
        }
        Refusal.outside("setStart x", Check.ARGUMENT, 0, 99, (t, n) -> t.setStart(n, 5), Stage.values());
        Refusal.outside("setStart y", Check.ARGUMENT, 0, 99, (t, n) -> t.setStart(5, n), Stage.values());
        Refusal.outside("setStart both", Check.ARGUMENT, 0, 99, (t, n) -> t.setStart(n, n), Stage.COURSE);
    }

    private static String flock(SheepdogTrial trial) {
        return trial.flockX() + "," + trial.flockY();
    }

    private static void coordinatesOfALeg() {
        for (int x : EDGES) {
            for (int y : EDGES) {
                SheepdogTrial trial = new SheepdogTrial();
                trial.setTolerance(1);
                trial.setStart(99 - x, 50);
                Check.equal("addLeg " + x + "," + y, 0, trial.addLeg(x, y, 9));
                trial.startRun();
                Check.isFalse("on the end " + x + "," + y, trial.isOffLine(x, y));
                Check.equal("walking to the end", 0, trial.walk(x, y, 1));
                Check.isTrue("complete at " + x + "," + y, trial.isComplete(0));
            }
        }
        Stage[] stages = Stage.values();
        Refusal.outside("addLeg x", Check.ARGUMENT, 0, 99, (t, n) -> t.addLeg(n, 5, 5), stages);
        Refusal.outside("addLeg y", Check.ARGUMENT, 0, 99, (t, n) -> t.addLeg(5, n, 5), stages);
        Refusal.outside("addLeg both", Check.ARGUMENT, 0, 99, (t, n) -> t.addLeg(n, n, 5), Stage.COURSE);
    }

    private static void coordinatesOfAGate() {
        for (int edge : EDGES) {
            SheepdogTrial trial = new SheepdogTrial();
            trial.setStart(50, 50);
            trial.addLeg(50, 50, 9);
            Check.equal("addGate x1 " + edge, 0, trial.addGate(0, edge, 3, 50, 3));
            Check.equal("addGate y1 " + edge, 1, trial.addGate(0, 3, edge, 3, 50));
            Check.equal("addGate x2 " + edge, 2, trial.addGate(0, 50, 3, edge, 3));
            Check.equal("addGate y2 " + edge, 3, trial.addGate(0, 3, 50, 3, edge));
            Check.equal("addGate diagonal " + edge, 4, trial.addGate(0, edge, edge, 50, 50));
            Check.isTrue("the diagonal ends at the leg", trial.isOnLine(4));
        }
        Stage[] stages = {Stage.COURSE, Stage.RUNNING, Stage.ENDED, Stage.FULL_COURSE, Stage.FULL_RUNNING};
        Refusal.outside("addGate x1", Check.ARGUMENT, 0, 99, (t, n) -> t.addGate(1, n, 5, 6, 7), stages);
        Refusal.outside("addGate y1", Check.ARGUMENT, 0, 99, (t, n) -> t.addGate(1, 5, n, 6, 7), stages);
        Refusal.outside("addGate x2", Check.ARGUMENT, 0, 99, (t, n) -> t.addGate(1, 5, 6, n, 7), stages);
        Refusal.outside("addGate y2", Check.ARGUMENT, 0, 99, (t, n) -> t.addGate(1, 5, 6, 7, n), stages);
        Refusal.outside("addGate all", Check.ARGUMENT, 0, 99, (t, n) -> t.addGate(1, n, n, n, n), Stage.COURSE);
    }

    // "A leg has points from 1 to 30."
    private static void pointsOfALeg() {
        for (int points = 1; points <= 30; points++) {
            SheepdogTrial trial = new SheepdogTrial();
            Check.equal("addLeg with points " + points, 0, trial.addLeg(5, 5, points));
            Check.equal("legPoints " + points, points, trial.legPoints(0));
            Check.equal("totalPoints " + points, points, trial.totalPoints());
            trial.startRun();
            Check.equal("pointsOn " + points, points, trial.pointsOn(0, 0));
        }
        Refusal.outside("addLeg points", Check.ARGUMENT, 1, 30, (t, n) -> t.addLeg(5, 5, n), Stage.values());
    }

    // "at most 6 legs, numbered from 0 in the order in which they were added"
    private static void atMostSixLegs() {
        SheepdogTrial trial = new SheepdogTrial();
        for (int leg = 0; leg < 6; leg++) {
            Check.equal("legs before leg " + leg, leg, trial.legs());
            Check.equal("addLeg " + leg, leg, trial.addLeg(99 - leg, leg, 30 - leg));
            Check.equal("legPoints " + leg, 30 - leg, trial.legPoints(leg));
        }
        Refusal.check("a seventh leg", Check.STATE, t -> t.addLeg(1, 1, 1), Stage.FULL_COURSE);
        Check.equal("undo of the sixth leg", 5, removeOne(trial));
        Check.equal("another sixth leg", 5, trial.addLeg(1, 2, 3));
        Check.equal("its points", 3, trial.legPoints(5));
    }

    private static int removeOne(SheepdogTrial trial) {
        trial.undo();
        return trial.legs();
    }

    // "the line segment from its begin to its end, which may be the same point"
    private static void legOfOnePoint() {
        SheepdogTrial trial = new SheepdogTrial();
        trial.setStart(40, 40);
        Check.equal("a leg that ends at the start", 0, trial.addLeg(40, 40, 3));
        Check.equal("a leg that ends where leg 0 ends", 1, trial.addLeg(40, 40, 3));
        Check.equal("a leg that goes on", 2, trial.addLeg(60, 40, 3));
        trial.startRun();
        Check.isFalse("5 from the point", trial.isOffLine(45, 40));
        Check.isTrue("6 from the point", trial.isOffLine(46, 40));
        trial.walk(40, 40, 1);
        Check.isFalse("5 from the second point", trial.isOffLine(40, 35));
        Check.isTrue("6 from the second point", trial.isOffLine(40, 34));
        trial.walk(40, 40, 1);
        Check.isFalse("on leg 2", trial.isOffLine(46, 40));
    }

    // "the begin of leg 0 is the start, and the begin of every other leg is
    // the end of the leg before it"
    private static void beginOfALeg() {
        SheepdogTrial trial = new SheepdogTrial();
        for (int[] end : Stage.ENDS) {
            trial.addLeg(end[0], end[1], 5);
        }
        trial.setStart(10, 10);
        trial.startRun();
        int x = 10;
        int y = 10;
        for (int leg = 0; leg < 6; leg++) {
            Check.isFalse("at the begin of leg " + leg, trial.isOffLine(x, y));
            Check.isFalse("between its ends",
                    trial.isOffLine((x + Stage.ENDS[leg][0]) / 2, (y + Stage.ENDS[leg][1]) / 2));
            Check.isTrue("far before its begin",
                    trial.isOffLine(Math.min(99, x + 6), Math.min(99, y + 6)));
            x = Stage.ENDS[leg][0];
            y = Stage.ENDS[leg][1];
            trial.walk(x, y, 1);
        }
        Check.isTrue("complete", trial.isComplete(0));
    }

    // "Throws IndexOutOfBoundsException if there is no such leg"
    private static void legOfAGate() {
        SheepdogTrial trial = new SheepdogTrial();
        for (int leg = 0; leg < 6; leg++) {
            int added = trial.addLeg(50, 50, 5);
            Check.equal("addGate to the latest leg", leg, trial.addGate(added, 1, 1, 2, 2));
            Check.equal("legOf " + leg, leg, trial.legOf(leg));
        }
        Refusal.outside("addGate leg", Check.INDEX, 0, -1, (t, n) -> t.addGate(n, 1, 1, 2, 2), Stage.NEW);
        Refusal.outside("addGate leg", Check.INDEX, 0, 1, (t, n) -> t.addGate(n, 1, 1, 2, 2), Stage.COURSE,
                Stage.RUNNING, Stage.ENDED);
        Refusal.outside("addGate leg", Check.INDEX, 0, 5, (t, n) -> t.addGate(n, 1, 1, 2, 2), Stage.FULL_COURSE,
                Stage.FULL_RUNNING, Stage.FULL_ENDED);
    }

    // "There are at most 6 gates, numbered from 0 in the order in which they
    // were added.": on one leg, or on several.
    private static void atMostSixGates() {
        SheepdogTrial trial = new SheepdogTrial();
        trial.addLeg(50, 50, 5);
        trial.addLeg(60, 60, 5);
        for (int gate = 0; gate < 6; gate++) {
            Check.equal("addGate " + gate, gate, trial.addGate(0, gate, 1, gate, 2));
            Check.equal("gates after gate " + gate, gate + 1, trial.gates());
        }
        Check.refused("a seventh gate on the same leg", Check.STATE, () -> trial.addGate(0, 1, 1, 2, 2));
        Check.refused("a seventh gate on a leg without gates", Check.STATE, () -> trial.addGate(1, 1, 1, 2, 2));
        Check.equal("gates after refusals", 6, trial.gates());
        Refusal.check("a seventh gate", Check.STATE, t -> t.addGate(0, 1, 1, 2, 2), Stage.FULL_COURSE);
        Refusal.check("a seventh gate", Check.STATE, t -> t.addGate(5, 1, 1, 2, 2), Stage.FULL_COURSE);
        trial.undo();
        Check.equal("another sixth gate", 5, trial.addGate(1, 1, 1, 2, 2));
        Check.equal("its leg", 1, trial.legOf(5));
    }

    // "the line segment between two different posts"
    private static void differentPosts() {
        SheepdogTrial trial = new SheepdogTrial();
        trial.addLeg(50, 50, 5);
        Check.equal("posts 1 apart in x", 0, trial.addGate(0, 30, 40, 31, 40));
        Check.equal("posts 1 apart in y", 1, trial.addGate(0, 30, 40, 30, 41));
        Check.equal("posts with coordinates exchanged", 2, trial.addGate(0, 30, 40, 40, 30));
        Check.equal("posts farthest apart", 3, trial.addGate(0, 0, 99, 99, 0));
        int[][] places = {{0, 0}, {0, 99}, {99, 0}, {99, 99}, {30, 40}, {40, 40}};
        for (int[] p : places) {
            Refusal.check("the same post " + p[0] + "," + p[1], Check.ARGUMENT,
                    t -> t.addGate(0, p[0], p[1], p[0], p[1]), Stage.COURSE, Stage.FULL_COURSE, Stage.RUNNING);
        }
    }

    // "The tolerance is a distance from 1 to 20, initially 5"
    private static void tolerances() {
        int previous = 5;
        SheepdogTrial trial = new SheepdogTrial();
        for (int tolerance = 1; tolerance <= 20; tolerance++) {
            Check.equal("setTolerance " + tolerance, previous, trial.setTolerance(tolerance));
            Check.equal("tolerance " + tolerance, tolerance, trial.tolerance());
            previous = tolerance;
        }
        Check.equal("setTolerance to what it is", 20, trial.setTolerance(20));
        Refusal.outside("setTolerance", Check.ARGUMENT, 1, 20, SheepdogTrial::setTolerance, Stage.values());
    }

    // "the time limit is from 60 to 999 seconds, initially 600"
    private static void timeLimits() {
        int previous = 600;
        SheepdogTrial trial = new SheepdogTrial();
        for (int seconds : new int[] {60, 61, 128, 255, 256, 500, 998, 999, 999, 60}) {
            Check.equal("setTimeLimit " + seconds, previous, trial.setTimeLimit(seconds));
            Check.equal("timeLimit " + seconds, seconds, trial.timeLimit());
            previous = seconds;
        }
        Refusal.outside("setTimeLimit", Check.ARGUMENT, 60, 999, SheepdogTrial::setTimeLimit, Stage.values());
    }

    // "can be changed only before the first run is started": also if that run
    // is undone, if a state before it is restored, or if its program failed.
    private static void courseBeforeTheFirstRun() {
        changeCourse("before a run", Check.twoLegs());
        SheepdogTrial undone = Check.twoLegsRunning();
        undone.retire();
        undone.undo();
        undone.undo();
        changeCourse("after an undone run", undone);
        SheepdogTrial restored = Check.twoLegs();
        restored.save();
        restored.startRun();
        restored.restore();
        changeCourse("after a restored state", restored);
        SheepdogTrial failed = Check.twoLegs();
        Check.equal("a failing program", "UnsupportedOperationException", Check.execute(failed, "run;run"));
        changeCourse("after a failed program", failed);
        SheepdogTrial refused = new SheepdogTrial();
        Check.refused("startRun without legs", Check.STATE, refused::startRun);
        Check.equal("setStart after a refused run", 0, refused.setStart(1, 1));
    }

    private static void changeCourse(String when, SheepdogTrial trial) {
        Check.equal("setStart " + when, 2, trial.setStart(9, 8));
        Check.equal("addLeg " + when, 2, trial.addLeg(70, 70, 7));
        Check.equal("addGate " + when, 2, trial.addGate(2, 1, 1, 2, 2));
        Check.equal("setTolerance " + when, 5, trial.setTolerance(6));
        Check.equal("setTimeLimit " + when, 600, trial.setTimeLimit(99));
        Check.equal("startRun " + when, 0, trial.startRun());
        Check.equal("the course " + when, "9,8 37 3 6 99", flock(trial) + " " + trial.totalPoints() + " "
                + trial.gates() + " " + trial.tolerance() + " " + trial.timeLimit());
    }

    private static void courseAfterTheFirstRun() {
        Stage[] stages = Stage.AFTER_THE_FIRST_RUN;
        for (int edge : new int[] {0, 99}) {
            Refusal.check("setStart", Check.STATE, t -> t.setStart(edge, edge), stages);
            Refusal.check("addLeg", Check.STATE, t -> t.addLeg(edge, edge, 1), stages);
            Refusal.check("addGate", Check.STATE, t -> t.addGate(0, edge, edge, 50, 50), stages);
        }
        Refusal.check("addLeg with 30 points", Check.STATE, t -> t.addLeg(5, 5, 30), stages);
        Refusal.check("addGate to leg 1", Check.STATE, t -> t.addGate(1, 5, 5, 6, 5), stages);
        for (int tolerance : new int[] {1, 5, 20}) {
            Refusal.check("setTolerance " + tolerance, Check.STATE, t -> t.setTolerance(tolerance), stages);
        }
        for (int seconds : new int[] {60, 600, 999}) {
            Refusal.check("setTimeLimit " + seconds, Check.STATE, t -> t.setTimeLimit(seconds), stages);
        }
    }

    // "If several conditions for an exception hold, the exception that is
    // listed first is thrown."
    private static void firstListedException() {
        Stage[] full = {Stage.FULL_COURSE, Stage.FULL_RUNNING, Stage.FULL_ENDED};
        Refusal.check("addGate: no leg and a wrong post", Check.INDEX, t -> t.addGate(6, 100, 1, 2, 2), full);
        Refusal.check("addGate: no leg and the same post", Check.INDEX, t -> t.addGate(-1, 2, 2, 2, 2), full);
        Refusal.check("addGate: no leg and no room", Check.INDEX, t -> t.addGate(6, 1, 1, 2, 2), full);
        Refusal.check("addGate: a wrong post and no room", Check.ARGUMENT, t -> t.addGate(0, 1, 1, 2, -1), full);
        Refusal.check("addGate: the same post and no room", Check.ARGUMENT, t -> t.addGate(5, 2, 2, 2, 2), full);
        Refusal.check("addGate: no leg, a wrong post", Check.INDEX, t -> t.addGate(0, 1, 1, 2, -1), Stage.NEW);
        Refusal.check("addLeg: wrong points and no room", Check.ARGUMENT, t -> t.addLeg(1, 1, 31), full);
        Refusal.check("addLeg: a wrong place and no room", Check.ARGUMENT, t -> t.addLeg(100, 1, 30), full);
        Refusal.check("setStart: a wrong place in a run", Check.ARGUMENT, t -> t.setStart(100, 0), Stage.RUNNING);
        Refusal.check("setTolerance 21 in a run", Check.ARGUMENT, t -> t.setTolerance(21), Stage.RUNNING);
        Refusal.check("setTimeLimit 59 in a run", Check.ARGUMENT, t -> t.setTimeLimit(59), Stage.RUNNING);
    }

    // "Throws IndexOutOfBoundsException if there is no such leg"
    private static void legIndexes() {
        Stage[] stages = Stage.values();
        for (Stage stage : stages) {
            SheepdogTrial trial = stage.make();
            for (int leg = 0; leg < trial.legs(); leg++) {
                int due = trial.legs() == 2 ? 20 - 10 * leg : 5 + 5 * leg;
                Check.equal("legPoints on " + stage, due, trial.legPoints(leg));
            }
            Refusal.index("legPoints", trial.legs(), SheepdogTrial::legPoints, stage);
        }
    }

    // "Throws IndexOutOfBoundsException if there is no such gate"
    private static void gateIndexes() {
        Stage[] stages = Stage.values();
        for (Stage stage : stages) {
            SheepdogTrial trial = stage.make();
            for (int gate = 0; gate < trial.gates(); gate++) {
                Check.equal("legOf on " + stage, trial.gates() == 2 ? gate : gate % 4, trial.legOf(gate));
                boolean due = trial.gates() == 2 || gate == 0 || gate == 2 || gate == 4;
                Check.equal("isOnLine " + gate + " on " + stage, due, trial.isOnLine(gate));
            }
            Refusal.index("legOf", trial.gates(), SheepdogTrial::legOf, stage);
            Refusal.index("isOnLine", trial.gates(), SheepdogTrial::isOnLine, stage);
        }
    }

    // "Returns the sum of the points of all legs.", from none to six times 30.
    private static void sumOfPoints() {
        SheepdogTrial trial = new SheepdogTrial();
        for (int legs = 0; legs <= 6; legs++) {
            Check.equal("totalPoints of " + legs, 30 * legs, trial.totalPoints());
            if (legs < 6) {
                trial.addLeg(1, 1, 30);
            }
        }
    }

    // "Returns whether a gate and its leg have a point in common.": the last
    // place where they have one, and the first where they have none.
    private static void gateAndLegInCommon() {
        for (int x = 19; x <= 61; x++) {
            SheepdogTrial trial = new SheepdogTrial();
            trial.setStart(20, 50);
            trial.addLeg(60, 50, 5);
            trial.addGate(0, x, 40, x, 60);
            trial.addGate(0, x, 50, x, 60);
            trial.addGate(0, x, 51, x, 60);
            trial.addGate(0, x, 40, x, 50);
            trial.addGate(0, x, 40, x, 49);
            boolean beside = x >= 20 && x <= 60;
            Check.equal("across at " + x, beside, trial.isOnLine(0));
            Check.equal("from the leg up at " + x, beside, trial.isOnLine(1));
            Check.equal("from 1 above at " + x, false, trial.isOnLine(2));
            Check.equal("up to the leg at " + x, beside, trial.isOnLine(3));
            Check.equal("up to 1 below at " + x, false, trial.isOnLine(4));
            Check.equal("along, from " + x, x <= 60, along(x, 99));
            Check.equal("along, up to " + x, x >= 20, along(x, 0));
        }
    }

    private static boolean along(int from, int to) {
        SheepdogTrial trial = new SheepdogTrial();
        trial.setStart(20, 50);
        trial.addLeg(60, 50, 5);
        trial.addGate(0, from, 50, to, 50);
        return trial.isOnLine(0);
    }
}
