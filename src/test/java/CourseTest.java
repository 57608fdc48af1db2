/** Promises 1 to 6 and 11 to 18: the course. */
final class CourseTest {
    private CourseTest() {
    }

    static void run() {
        newObject();
        setStart();
        addLeg();
        addGate();
        setTolerance();
        setTimeLimit();
        legProperties();
        gateProperties();
        gateOnLine();
        gateOnLineOfALaterLeg();
        everySegmentOfASmallGrid();
    }

    private static void newObject() {
        SheepdogTrial trial = new SheepdogTrial();
        Check.equal("new: legs", 0, trial.legs());
        Check.equal("new: gates", 0, trial.gates());
        Check.equal("new: runs", 0, trial.runs());
        Check.equal("new: totalPoints", 0, trial.totalPoints());
        Check.equal("new: tolerance", 5, trial.tolerance());
        Check.equal("new: timeLimit", 600, trial.timeLimit());
        Check.isFalse("new: isRunning", trial.isRunning());
        Check.isTrue("new: isConsistent", trial.isConsistent());
        Check.refused("new: charAt(0)", Check.INDEX, () -> trial.charAt(0));
        Check.refused("new: errorPosition", Check.ELEMENT, trial::errorPosition);
        Check.refused("new: failedCommand", Check.ELEMENT, trial::failedCommand);
        Check.refused("new: undo", Check.STATE, trial::undo);
        Check.refused("new: restore", Check.STATE, trial::restore);
        trial.addLeg(9, 9, 1);
        trial.startRun();
        Check.equal("new: start x", 0, trial.flockX());
        Check.equal("new: start y", 0, trial.flockY());
    }

    private static void setStart() {
        SheepdogTrial trial = new SheepdogTrial();
        Check.equal("setStart without legs", 0, trial.setStart(99, 0));
        trial.addLeg(50, 50, 1);
        Check.equal("setStart with a leg", 1, trial.setStart(7, 99));
        Check.refused("setStart x -1", Check.ARGUMENT, () -> trial.setStart(-1, 0));
        Check.refused("setStart x 100", Check.ARGUMENT, () -> trial.setStart(100, 0));
        Check.refused("setStart y -1", Check.ARGUMENT, () -> trial.setStart(0, -1));
        Check.refused("setStart y 100", Check.ARGUMENT, () -> trial.setStart(0, 100));
        trial.startRun();
        Check.equal("start x", 7, trial.flockX());
        Check.equal("start y", 99, trial.flockY());
        Check.refused("setStart in a run", Check.STATE, () -> trial.setStart(1, 1));
        Check.refused("setStart: the argument first", Check.ARGUMENT, () -> trial.setStart(100, 1));
        trial.retire();
        Check.refused("setStart after a run", Check.STATE, () -> trial.setStart(1, 1));
    }

    private static void addLeg() {
        SheepdogTrial trial = new SheepdogTrial();
        Check.refused("addLeg x -1", Check.ARGUMENT, () -> trial.addLeg(-1, 0, 5));
        Check.refused("addLeg x 100", Check.ARGUMENT, () -> trial.addLeg(100, 0, 5));
        Check.refused("addLeg y -1", Check.ARGUMENT, () -> trial.addLeg(0, -1, 5));
        Check.refused("addLeg y 100", Check.ARGUMENT, () -> trial.addLeg(0, 100, 5));
        Check.refused("addLeg points 0", Check.ARGUMENT, () -> trial.addLeg(0, 0, 0));
        Check.refused("addLeg points 31", Check.ARGUMENT, () -> trial.addLeg(0, 0, 31));
        Check.equal("refused legs are not there", 0, trial.legs());
        Check.equal("addLeg at the start itself", 0, trial.addLeg(0, 0, 1));
        Check.equal("addLeg at the edge", 1, trial.addLeg(99, 99, 30));
        for (int leg = 2; leg < 6; leg++) {
            Check.equal("addLeg", leg, trial.addLeg(leg, leg, leg));
        }
        Check.refused("addLeg: a seventh leg", Check.STATE, () -> trial.addLeg(1, 1, 1));
        Check.refused("addLeg: the argument first", Check.ARGUMENT, () -> trial.addLeg(1, 1, 0));
        SheepdogTrial started = Check.twoLegsRunning();
        Check.refused("addLeg in a run", Check.STATE, () -> started.addLeg(1, 1, 1));
        Check.equal("no leg in a run", 2, started.legs());
    }

    private static void addGate() {
        SheepdogTrial trial = new SheepdogTrial();
        Check.refused("addGate without legs", Check.INDEX, () -> trial.addGate(0, 1, 1, 2, 2));
        trial.addLeg(50, 0, 10);
        Check.refused("addGate leg -1", Check.INDEX, () -> trial.addGate(-1, 1, 1, 2, 2));
        Check.refused("addGate leg 1", Check.INDEX, () -> trial.addGate(1, 1, 1, 2, 2));
        Check.refused("addGate: the leg first", Check.INDEX, () -> trial.addGate(1, 1, 1, 1, 1));
        int[][] wrong = {{-1, 0, 5, 5}, {100, 0, 5, 5}, {0, -1, 5, 5}, {0, 100, 5, 5}, {5, 5, -1, 0},
            {5, 5, 100, 0}, {5, 5, 0, -1}, {5, 5, 0, 100}, {3, 4, 3, 4}};
        for (int[] posts : wrong) {
            Check.refused("addGate with wrong posts", Check.ARGUMENT,
                    () -> trial.addGate(0, posts[0], posts[1], posts[2], posts[3]));
        }
        Check.equal("addGate with the same x", 0, trial.addGate(0, 0, 0, 0, 99));
        Check.equal("addGate with the same y", 1, trial.addGate(0, 0, 99, 99, 99));
        for (int gate = 2; gate < 6; gate++) {
            Check.equal("addGate", gate, trial.addGate(0, gate, 1, gate, 2));
        }
        Check.refused("addGate: a seventh gate", Check.STATE, () -> trial.addGate(0, 1, 1, 2, 2));
        Check.refused("addGate: the posts first", Check.ARGUMENT, () -> trial.addGate(0, 1, 1, 1, 1));
        Check.equal("gates", 6, trial.gates());
        SheepdogTrial started = Check.twoLegsRunning();
        Check.refused("addGate in a run", Check.STATE, () -> started.addGate(0, 1, 1, 2, 2));
    }

    private static void setTolerance() {
        SheepdogTrial trial = Check.twoLegs();
        Check.equal("setTolerance answers the first", 5, trial.setTolerance(20));
        Check.equal("tolerance 20", 20, trial.tolerance());
        Check.equal("setTolerance answers the previous", 20, trial.setTolerance(1));
        Check.equal("tolerance 1", 1, trial.tolerance());
        Check.refused("setTolerance 0", Check.ARGUMENT, () -> trial.setTolerance(0));
        Check.refused("setTolerance 21", Check.ARGUMENT, () -> trial.setTolerance(21));
        trial.startRun();
        Check.refused("setTolerance in a run", Check.STATE, () -> trial.setTolerance(3));
        Check.refused("setTolerance: the argument first", Check.ARGUMENT, () -> trial.setTolerance(21));
        Check.equal("tolerance after refusals", 1, trial.tolerance());
    }

    private static void setTimeLimit() {
        SheepdogTrial trial = Check.twoLegs();
        Check.equal("setTimeLimit answers the first", 600, trial.setTimeLimit(999));
        Check.equal("timeLimit 999", 999, trial.timeLimit());
        Check.equal("setTimeLimit answers the previous", 999, trial.setTimeLimit(60));
        Check.equal("timeLimit 60", 60, trial.timeLimit());
        Check.refused("setTimeLimit 59", Check.ARGUMENT, () -> trial.setTimeLimit(59));
        Check.refused("setTimeLimit 1000", Check.ARGUMENT, () -> trial.setTimeLimit(1000));
        trial.startRun();
        Check.refused("setTimeLimit in a run", Check.STATE, () -> trial.setTimeLimit(70));
        Check.refused("setTimeLimit: the argument first", Check.ARGUMENT, () -> trial.setTimeLimit(59));
        Check.equal("timeLimit after refusals", 60, trial.timeLimit());
    }

    private static void legProperties() {
        SheepdogTrial trial = Check.twoLegs();
        Check.equal("legs", 2, trial.legs());
        Check.equal("legPoints 0", 20, trial.legPoints(0));
        Check.equal("legPoints 1", 10, trial.legPoints(1));
        Check.refused("legPoints -1", Check.INDEX, () -> trial.legPoints(-1));
        Check.refused("legPoints 2", Check.INDEX, () -> trial.legPoints(2));
        Check.refused("legPoints of the highest number", Check.INDEX, () -> trial.legPoints(Integer.MAX_VALUE));
        Check.equal("totalPoints", 30, trial.totalPoints());
        trial.startRun();
        trial.fault(9);
        Check.equal("legPoints after a fault", 20, trial.legPoints(0));
        Check.equal("totalPoints after a fault", 30, trial.totalPoints());
    }

    private static void gateProperties() {
        SheepdogTrial trial = Check.twoLegs();
        trial.addGate(0, 1, 2, 3, 4);
        Check.equal("gates", 3, trial.gates());
        Check.equal("legOf 0", 0, trial.legOf(0));
        Check.equal("legOf 1", 1, trial.legOf(1));
        Check.equal("legOf 2", 0, trial.legOf(2));
        Check.refused("legOf -1", Check.INDEX, () -> trial.legOf(-1));
        Check.refused("legOf 3", Check.INDEX, () -> trial.legOf(3));
    }

    private static void gateOnLine() {
        Check.isTrue("across", onLine(10, 10, 50, 10, 30, 5, 30, 15));
        Check.isFalse("beside", onLine(10, 10, 50, 10, 30, 11, 30, 15));
        Check.isTrue("a post on the leg", onLine(10, 10, 50, 10, 30, 10, 30, 15));
        Check.isTrue("a post at the end of the leg", onLine(10, 10, 50, 10, 50, 10, 60, 15));
        Check.isFalse("behind the end of the leg", onLine(10, 10, 50, 10, 51, 5, 51, 15));
        Check.isTrue("along the leg, overlapping", onLine(10, 10, 50, 10, 40, 10, 60, 10));
        Check.isTrue("along the leg, touching", onLine(10, 10, 50, 10, 50, 10, 60, 10));
        Check.isFalse("along the leg, apart", onLine(10, 10, 50, 10, 51, 10, 60, 10));
        Check.isFalse("along a leg that goes up, apart", onLine(5, 0, 5, 2, 5, 5, 5, 9));
        Check.isFalse("along a leg that goes up, apart below", onLine(5, 5, 5, 9, 5, 0, 5, 2));
        Check.isFalse("along a slanting leg, apart", onLine(0, 0, 3, 3, 4, 4, 6, 6));
        Check.isFalse("crossing only when drawn longer", onLine(0, 0, 9, 3, 5, 2, 6, 9));
        Check.isFalse("a gate that ends before the leg", onLine(5, 2, 6, 9, 0, 0, 9, 3));
        Check.isFalse("parallel", onLine(10, 10, 50, 10, 10, 11, 50, 11));
        Check.isTrue("a slanting gate across", onLine(0, 0, 99, 99, 0, 99, 99, 0));
        Check.isFalse("a near miss", onLine(0, 0, 99, 98, 99, 99, 50, 50));
        Check.isTrue("a leg of one point on the gate", onLine(20, 20, 20, 20, 10, 10, 30, 30));
        Check.isTrue("a leg of one point at a post", onLine(20, 20, 20, 20, 20, 20, 30, 31));
        Check.isFalse("a leg of one point beside the gate", onLine(20, 21, 20, 21, 10, 10, 30, 30));
        Check.isFalse("a leg of one point in line with the gate", onLine(31, 31, 31, 31, 10, 10, 30, 30));
        SheepdogTrial trial = Check.twoLegs();
        Check.isTrue("a gate of the second leg", trial.isOnLine(1));
        trial.addGate(1, 20, 5, 20, 15);
        Check.isFalse("a gate on another leg only", trial.isOnLine(2));
        trial.setStart(10, 90);
        Check.isFalse("the start moves the leg", trial.isOnLine(0));
        Check.refused("isOnLine -1", Check.INDEX, () -> trial.isOnLine(-1));
        Check.refused("isOnLine 3", Check.INDEX, () -> trial.isOnLine(3));
    }

    private static void gateOnLineOfALaterLeg() {
        SheepdogTrial trial = new SheepdogTrial();
        trial.setStart(90, 90);
        trial.addLeg(10, 20, 5);
        trial.addLeg(50, 60, 5);
        trial.addGate(1, 10, 20, 10, 10);
        trial.addGate(1, 20, 29, 30, 41);
        trial.addGate(1, 60, 10, 60, 99);
        trial.addGate(0, 60, 10, 60, 99);
        Check.isTrue("at the begin of leg 1", trial.isOnLine(0));
        Check.isTrue("across leg 1", trial.isOnLine(1));
        Check.isFalse("across leg 0, but of leg 1", trial.isOnLine(2));
        Check.isTrue("across leg 0", trial.isOnLine(3));
    }

    // Places are numbered through a grid of 4 by 4 points; all legs and gates
    // between them are compared with the model.
    private static void everySegmentOfASmallGrid() {
        for (int places = 0; places < 16 * 16; places++) {
            for (int posts = 0; posts < 16 * 16; posts++) {
                if (posts % 16 != posts / 16) {
                    compareOnLine(places % 16, places / 16, posts % 16, posts / 16);
                }
            }
        }
    }

    private static void compareOnLine(int begin, int end, int post1, int post2) {
        Model model = new Model();
        model.setStart(begin % 4, begin / 4);
        model.addLeg(end % 4, end / 4, 5);
        model.addGate(0, post1 % 4, post1 / 4, post2 % 4, post2 / 4);
        Check.equal("grid " + begin + " " + end + " " + post1 + " " + post2, model.isOnLine(0),
                onLine(begin % 4, begin / 4, end % 4, end / 4, post1 % 4, post1 / 4, post2 % 4, post2 / 4));
    }

    private static boolean onLine(int x1, int y1, int x2, int y2, int postX1, int postY1, int postX2, int postY2) {
        SheepdogTrial trial = new SheepdogTrial();
        trial.setStart(x1, y1);
        trial.addLeg(x2, y2, 5);
        trial.addGate(0, postX1, postY1, postX2, postY2);
        return trial.isOnLine(0);
    }
}
