import java.util.NoSuchElementException;

/** A judge of sheepdog trials. */
public final class SheepdogTrial {
    private static final int MAX_LEGS = 6;
    private static final int MAX_GATES = 6;
    private static final int MAX_RUNS = 8;
    private static final int MAX_UNDO = 8;
    private static final int MAX_COORDINATE = 99;
    private static final int MAX_LEG_POINTS = 30;
    private static final int MAX_FAULT_POINTS = 9;
    private static final int MAX_TOLERANCE = 20;
    private static final int MIN_TIME_LIMIT = 60;
    private static final int MAX_SECONDS = 999;
    private static final int END_DISTANCE = 3;
    private static final int GATE_POINTS = 5;

    // A command of State answers one of these instead of its own answer, which
    // is never negative; so calls and programs share each command's tests.
    private static final int NO_SUCH_INDEX = -1;
    private static final int BAD_ARGUMENT = -2;
    private static final int BAD_STATE = -3;

    private static final int NONE = -1;

    private final State now = new State();
    private final State draft = new State();
    private final State saved = new State();
    private boolean hasSaved = false;
    private final History history = new History();
    private final int[] ranking = new int[MAX_RUNS];
    private final Line line = new Line();
    private final Program program = new Program();
    private int errorPosition = NONE;
    private int failedCommand = NONE;

    /** Creates a trial without legs, gates and runs. */
    public SheepdogTrial() {
    }

    // ---- the course

    /** Sets the start; answers the number of legs. */
    public int setStart(int x, int y) throws IllegalArgumentException, IllegalStateException {
        return settle(freshDraft().placeStart(x, y));
    }

    /** Adds a leg behind the other ones; answers its number. */
    public int addLeg(int x, int y, int points) throws IllegalArgumentException, IllegalStateException {
        return settle(freshDraft().appendLeg(x, y, points));
    }

    /** Adds a gate to a leg; answers its number. */
    public int addGate(int leg, int x1, int y1, int x2, int y2)
            throws IndexOutOfBoundsException, IllegalArgumentException, IllegalStateException {
        return settle(freshDraft().appendGate(leg, x1, y1, x2, y2));
    }

    /** Sets the tolerance; answers the previous one. */
    public int setTolerance(int tolerance) throws IllegalArgumentException, IllegalStateException {
        return settle(freshDraft().changeTolerance(tolerance));
    }

    /** Sets the time limit; answers the previous one. */
    public int setTimeLimit(int seconds) throws IllegalArgumentException, IllegalStateException {
        return settle(freshDraft().changeTimeLimit(seconds));
    }

    // ---- runs

    /** Starts a run; answers its number. */
    public int startRun() throws IllegalStateException {
        return settle(freshDraft().beginRun());
    }

    /** Lets the flock make a step; answers the points lost in it. */
    public int walk(int x, int y, int seconds) throws IllegalArgumentException, IllegalStateException {
        return settle(freshDraft().makeStep(x, y, seconds));
    }

    /** Deducts points for a fault; answers the points lost. */
    public int fault(int points) throws IllegalArgumentException, IllegalStateException {
        return settle(freshDraft().deductFault(points));
    }

    /** Retires the run that is going on; answers the points lost. */
    public int retire() throws IllegalStateException {
        return settle(freshDraft().giveUpRun());
    }

    // ---- properties of the course

    /** Answers the number of legs. */
    public int legs() {
        return now.course.legCount;
    }

    /** Answers the points of a leg. */
    public int legPoints(int leg) throws IndexOutOfBoundsException {
        requireLeg(leg);
        return now.course.legPoints[leg];
    }

    /** Answers the sum of the points of all legs. */
    public int totalPoints() {
        return now.course.sumOfPoints();
    }

    /** Answers the number of gates. */
    public int gates() {
        return now.course.gateCount;
    }

    /** Answers the leg of a gate. */
    public int legOf(int gate) throws IndexOutOfBoundsException {
        requireGate(gate);
        return now.course.gateLeg[gate];
    }

    /** Answers whether a gate and its leg have a point in common. */
    public boolean isOnLine(int gate) throws IndexOutOfBoundsException {
        requireGate(gate);
        return now.course.gateMeetsItsLeg(gate);
    }

    /** Answers the tolerance. */
    public int tolerance() {
        return now.course.tolerance;
    }

    /** Answers the time limit in seconds. */
    public int timeLimit() {
        return now.course.timeLimit;
    }

    // ---- the run that is going on

    /** Answers whether a run is going on. */
    public boolean isRunning() {
        return now.running;
    }

    /** Answers the present leg. */
    public int presentLeg() throws IllegalStateException {
        requireRunning();
        return now.presentLeg;
    }

    /** Answers the x coordinate of the flock. */
    public int flockX() throws IllegalStateException {
        requireRunning();
        return now.flockX;
    }

    /** Answers the y coordinate of the flock. */
    public int flockY() throws IllegalStateException {
        requireRunning();
        return now.flockY;
    }

    /** Answers the first gate of the present leg that is not passed yet. */
    public int nextGate() throws IllegalStateException, NoSuchElementException {
        requireRunning();
        int gate = now.firstOpenGate();
        if (gate == NONE) {
            throw new NoSuchElementException("every gate of the present leg is passed");
        }
        return gate;
    }

    /** Answers how many gates a step to a point would pass within the time limit. */
    public int gatesPassedTo(int x, int y) throws IllegalArgumentException, IllegalStateException {
        requirePoint(x, y);
        requireRunning();
        return freshDraft().passGates(x, y);
    }

    /** Answers whether a point is farther from the present leg than the tolerance. */
    public boolean isOffLine(int x, int y) throws IllegalArgumentException, IllegalStateException {
        requirePoint(x, y);
        requireRunning();
        return now.course.isOffLeg(now.presentLeg, x, y);
    }

    /** Answers how many points would be lost in a step. */
    public int lossOfStep(int x, int y, int seconds) throws IllegalArgumentException, IllegalStateException {
        return accepted(freshDraft().makeStep(x, y, seconds));
    }

    // ---- results

    /** Answers the number of runs. */
    public int runs() {
        return now.runCount;
    }

    /** Answers whether a run is complete. */
    public boolean isComplete(int run) throws IndexOutOfBoundsException {
        return runNumbered(run).complete;
    }

    /** Answers the time of a run in seconds. */
    public int time(int run) throws IndexOutOfBoundsException {
        return runNumbered(run).seconds;
    }

    /** Answers whether a run has passed a gate. */
    public boolean hasPassed(int run, int gate) throws IndexOutOfBoundsException {
        Run result = runNumbered(run);
        requireGate(gate);
        return result.isGatePassed(gate);
    }

    /** Answers the points that a run has on a leg. */
    public int pointsOn(int run, int leg) throws IndexOutOfBoundsException {
        Run result = runNumbered(run);
        requireLeg(leg);
        return result.points[leg];
    }

    /** Answers the score of a run, by adding its points on all legs. */
    public int score(int run) throws IndexOutOfBoundsException {
        return runNumbered(run).sumOfPoints();
    }

    /** Answers the same score, by subtracting all losses from the points of the course. */
    public int scoreByLosses(int run) throws IndexOutOfBoundsException {
        return now.course.sumOfPoints() - runNumbered(run).sumOfLosses();
    }

    /** Answers the line loss of a run. */
    public int lineLoss(int run) throws IndexOutOfBoundsException {
        return runNumbered(run).lostOffLine;
    }

    /** Answers the gate loss of a run. */
    public int gateLoss(int run) throws IndexOutOfBoundsException {
        return runNumbered(run).lostAtGates;
    }

    /** Answers the fault loss of a run. */
    public int faultLoss(int run) throws IndexOutOfBoundsException {
        return runNumbered(run).lostByFaults;
    }

    /** Answers the time loss of a run. */
    public int timeLoss(int run) throws IndexOutOfBoundsException {
        return runNumbered(run).lostOverTime;
    }

    // ---- ranking and statistics

    /** Answers the run at a rank, by sorting the runs. */
    public int runAt(int rank) throws NoSuchElementException {
        if (rank < 0 || rank >= now.runCount) {
            throw new NoSuchElementException("there is no such rank");
        }
        now.sortRuns(ranking);
        return ranking[rank];
    }

    /** Answers the rank of a run, by counting the runs that are ranked before it. */
    public int rankOf(int run) throws IndexOutOfBoundsException {
        requireRun(run);
        return now.countRunsBefore(run);
    }

    /** Answers the run with the most points on a leg, of several the one with the smallest number. */
    public int bestOn(int leg) throws IndexOutOfBoundsException, NoSuchElementException {
        requireLeg(leg);
        if (now.runCount == 0) {
            throw new NoSuchElementException("there are no runs");
        }
        return now.bestRunOn(leg);
    }

    /** Answers the mean score of all runs. */
    public double meanScore() throws ArithmeticException {
        int count = now.runCount;
        if (count == 0) {
            throw new ArithmeticException("there are no runs");
        }
        return (double) now.sumOfScores() / (double) count;
    }

    /** Answers the part of the runs that have passed a gate. */
    public float passRate(int gate) throws IndexOutOfBoundsException, ArithmeticException {
        requireGate(gate);
        int count = now.runCount;
        if (count == 0) {
            throw new ArithmeticException("there are no runs");
        }
        return (float) now.countRunsThrough(gate) / (float) count;
    }

    /** Answers whether the invariants hold. */
    public boolean isConsistent() {
        now.sortRuns(ranking);
        for (int run = 0; run < now.runCount; run++) {
            if (now.countRunsBefore(ranking[run]) != run || !now.isSound(run)) {
                return false;
            }
        }
        return true;
    }

    // ---- output

    /** Writes a run to the output line; answers the length of the line. */
    public int writeRun(int run) throws IndexOutOfBoundsException {
        Run result = runNumbered(run);
        line.clear();
        line.putNumber(run);
        for (int leg = 0; leg < result.legCount; leg++) {
            line.put(leg == 0 ? ':' : '+');
            line.putNumber(result.points[leg]);
        }
        line.put('=');
        line.putNumber(result.sumOfPoints());
        if (now.isGoingOn(run)) {
            line.put('*');
        } else if (result.complete) {
            line.put('!');
        }
        return line.length;
    }

    /** Writes the ranking to the output line; answers the length of the line. */
    public int writeRanking() {
        line.clear();
        now.sortRuns(ranking);
        for (int rank = 0; rank < now.runCount; rank++) {
            int run = ranking[rank];
            if (rank > 0) {
                line.put(' ');
            }
            line.putNumber(run);
            line.put('=');
            line.putNumber(now.runs[run].sumOfPoints());
        }
        return line.length;
    }

    /** Answers a character of the output line. */
    public char charAt(int index) throws IndexOutOfBoundsException {
        if (index < 0 || index >= line.length) {
            throw new IndexOutOfBoundsException("the output line has no such index");
        }
        return line.signs[index];
    }

    // ---- programs

    /** Appends a character to the program buffer; answers its length. */
    public int type(char character) throws IllegalStateException {
        if (program.length >= Program.MAX_LENGTH) {
            throw new IllegalStateException("the program buffer is full");
        }
        program.append(character);
        return program.length;
    }

    /** Executes the program in the buffer wholly or not at all; answers the number of commands. */
    public int execute() throws IllegalArgumentException, UnsupportedOperationException {
        int error = program.parse();
        program.clear();
        if (error != NONE) {
            errorPosition = error;
            throw new IllegalArgumentException("the text is not a program");
        }
        int failed = program.performOn(freshDraft());
        if (failed != NONE) {
            failedCommand = failed;
            throw new UnsupportedOperationException("a command failed");
        }
        return settle(program.commandCount);
    }

    /** Answers the error position of the latest text that was not a program. */
    public int errorPosition() throws NoSuchElementException {
        if (errorPosition == NONE) {
            throw new NoSuchElementException("every text was a program");
        }
        return errorPosition;
    }

    /** Answers the number of the latest command that failed in a program. */
    public int failedCommand() throws NoSuchElementException {
        if (failedCommand == NONE) {
            throw new NoSuchElementException("no command failed");
        }
        return failedCommand;
    }

    // ---- undo and snapshots

    /** Undoes the latest change; answers how many changes can still be undone. */
    public int undo() throws IllegalStateException {
        if (history.count == 0) {
            throw new IllegalStateException("no change can be undone");
        }
        history.popInto(now);
        return history.count;
    }

    /** Saves the state in place of the one saved before; answers the number of runs. */
    public int save() {
        saved.copyFrom(now);
        hasSaved = true;
        return now.runCount;
    }

    /** Restores the saved state; answers the number of runs. */
    public int restore() throws IllegalStateException {
        if (!hasSaved) {
            throw new IllegalStateException("no state was saved");
        }
        now.copyFrom(saved);
        history.clear();
        return now.runCount;
    }

    // ---- how a change is made

    // Every change is tried on the draft first, so that a call that throws
    // has changed nothing.
    private State freshDraft() {
        draft.copyFrom(now);
        return draft;
    }

    private int settle(int answer) {
        accepted(answer);
        history.push(now);
        now.copyFrom(draft);
        return answer;
    }

    private static int accepted(int answer) {
        if (answer == NO_SUCH_INDEX) {
            throw new IndexOutOfBoundsException("there is no such leg");
        }
        if (answer == BAD_ARGUMENT) {
            throw new IllegalArgumentException("an argument is out of range");
        }
        if (answer == BAD_STATE) {
            throw new IllegalStateException("the state of the trial forbids this");
        }
        return answer;
    }

    // ---- tests of arguments

    private void requireLeg(int leg) {
        if (!now.course.hasLeg(leg)) {
            throw new IndexOutOfBoundsException("there is no such leg");
        }
    }

    private void requireGate(int gate) {
        if (gate < 0 || gate >= now.course.gateCount) {
            throw new IndexOutOfBoundsException("there is no such gate");
        }
    }

    private void requireRun(int run) {
        if (run < 0 || run >= now.runCount) {
            throw new IndexOutOfBoundsException("there is no such run");
        }
    }

    private Run runNumbered(int run) {
        requireRun(run);
        return now.runs[run];
    }

    private void requireRunning() {
        if (!now.running) {
            throw new IllegalStateException("no run is going on");
        }
    }

    private static void requirePoint(int x, int y) {
        if (!isPoint(x, y)) {
            throw new IllegalArgumentException("a coordinate is out of range");
        }
    }

    private static boolean isPoint(int x, int y) {
        return isWithin(x, 0, MAX_COORDINATE) && isWithin(y, 0, MAX_COORDINATE);
    }

    private static boolean isWithin(int value, int low, int high) {
        return low <= value && value <= high;
    }

    /** The legs and gates, with the distances and crossings on them. */
    private static final class Course {
        int startX = 0;
        int startY = 0;
        int tolerance = 5;
        int timeLimit = 600;
        int legCount = 0;
        final int[] legEndX = new int[MAX_LEGS];
        final int[] legEndY = new int[MAX_LEGS];
        final int[] legPoints = new int[MAX_LEGS];
        int gateCount = 0;
        final int[] gateLeg = new int[MAX_GATES];
        final int[] gateX1 = new int[MAX_GATES];
        final int[] gateY1 = new int[MAX_GATES];
        final int[] gateX2 = new int[MAX_GATES];
        final int[] gateY2 = new int[MAX_GATES];

        void copyFrom(Course other) {
            startX = other.startX;
            startY = other.startY;
            tolerance = other.tolerance;
            timeLimit = other.timeLimit;
            legCount = other.legCount;
            System.arraycopy(other.legEndX, 0, legEndX, 0, MAX_LEGS);
            System.arraycopy(other.legEndY, 0, legEndY, 0, MAX_LEGS);
            System.arraycopy(other.legPoints, 0, legPoints, 0, MAX_LEGS);
            gateCount = other.gateCount;
            System.arraycopy(other.gateLeg, 0, gateLeg, 0, MAX_GATES);
            System.arraycopy(other.gateX1, 0, gateX1, 0, MAX_GATES);
            System.arraycopy(other.gateY1, 0, gateY1, 0, MAX_GATES);
            System.arraycopy(other.gateX2, 0, gateX2, 0, MAX_GATES);
            System.arraycopy(other.gateY2, 0, gateY2, 0, MAX_GATES);
        }

        boolean hasLeg(int leg) {
            return leg >= 0 && leg < legCount;
        }

        int sumOfPoints() {
            int sum = 0;
            for (int leg = 0; leg < legCount; leg++) {
                sum += legPoints[leg];
            }
            return sum;
        }

        int legBeginX(int leg) {
            return leg == 0 ? startX : legEndX[leg - 1];
        }

        int legBeginY(int leg) {
            return leg == 0 ? startY : legEndY[leg - 1];
        }

        boolean gateMeetsItsLeg(int gate) {
            int leg = gateLeg[gate];
            return gateMeets(gate, legBeginX(leg), legBeginY(leg), legEndX[leg], legEndY[leg]);
        }

        // Two segments have a point in common if the rectangles round them do
        // and neither segment lies wholly on one side of the other; this also
        // holds for segments of one point. A product of two sides stays below
        // 2 to the power of 29, because coordinates are below 100.
        boolean gateMeets(int gate, int x1, int y1, int x2, int y2) {
            int postX1 = gateX1[gate];
            int postY1 = gateY1[gate];
            int postX2 = gateX2[gate];
            int postY2 = gateY2[gate];
            if (Math.max(x1, x2) < Math.min(postX1, postX2) || Math.max(postX1, postX2) < Math.min(x1, x2)
                    || Math.max(y1, y2) < Math.min(postY1, postY2) || Math.max(postY1, postY2) < Math.min(y1, y2)) {
                return false;
            }
            int side1 = side(x1, y1, x2, y2, postX1, postY1);
            int side2 = side(x1, y1, x2, y2, postX2, postY2);
            int side3 = side(postX1, postY1, postX2, postY2, x1, y1);
            int side4 = side(postX1, postY1, postX2, postY2, x2, y2);
            return side1 * side2 <= 0 && side3 * side4 <= 0;
        }

        /** Answers on which side of the line from a to b the point is: the sign tells, 0 is on the line. */
        private static int side(int ax, int ay, int bx, int by, int x, int y) {
            return (bx - ax) * (y - ay) - (by - ay) * (x - ax);
        }

        // Compares squares of distances, multiplied by the square of the leg's
        // length, so that all numbers stay whole and exact.
        boolean isOffLeg(int leg, int x, int y) {
            int beginX = legBeginX(leg);
            int beginY = legBeginY(leg);
            int endX = legEndX[leg];
            int endY = legEndY[leg];
            int square = squareOfDistance(beginX, beginY, endX, endY);
            int along = (x - beginX) * (endX - beginX) + (y - beginY) * (endY - beginY);
            if (along <= 0) {
                return squareOfDistance(x, y, beginX, beginY) > tolerance * tolerance;
            }
            if (along >= square) {
                return squareOfDistance(x, y, endX, endY) > tolerance * tolerance;
            }
            int aside = side(beginX, beginY, endX, endY, x, y);
            return aside * aside > tolerance * tolerance * square;
        }

        boolean isNearEnd(int leg, int x, int y) {
            return squareOfDistance(x, y, legEndX[leg], legEndY[leg]) <= END_DISTANCE * END_DISTANCE;
        }

        private static int squareOfDistance(int x1, int y1, int x2, int y2) {
            return (x2 - x1) * (x2 - x1) + (y2 - y1) * (y2 - y1);
        }
    }

    /** The result of one run, so far. */
    private static final class Run {
        int seconds = 0;
        boolean complete = false;
        int legCount = 0;
        final int[] points = new int[MAX_LEGS];
        int passedGates = 0;
        int lostOffLine = 0;
        int lostAtGates = 0;
        int lostByFaults = 0;
        int lostOverTime = 0;

        void copyFrom(Run other) {
            seconds = other.seconds;
            complete = other.complete;
            legCount = other.legCount;
            System.arraycopy(other.points, 0, points, 0, MAX_LEGS);
            passedGates = other.passedGates;
            lostOffLine = other.lostOffLine;
            lostAtGates = other.lostAtGates;
            lostByFaults = other.lostByFaults;
            lostOverTime = other.lostOverTime;
        }

        void begin(Course course) {
            seconds = 0;
            complete = false;
            legCount = course.legCount;
            System.arraycopy(course.legPoints, 0, points, 0, MAX_LEGS);
            passedGates = 0;
            lostOffLine = 0;
            lostAtGates = 0;
            lostByFaults = 0;
            lostOverTime = 0;
        }

        boolean isGatePassed(int gate) {
            return (passedGates & (1 << gate)) != 0;
        }

        void passGate(int gate) {
            passedGates |= 1 << gate;
        }

        /** Deducts points on a leg; answers how many were really lost. */
        int deduct(int leg, int wanted) {
            int lost = Math.min(wanted, points[leg]);
            points[leg] -= lost;
            return lost;
        }

        /** Deducts all points from a leg on; answers how many were lost. */
        int deductFrom(int firstLeg) {
            int lost = 0;
            for (int leg = firstLeg; leg < legCount; leg++) {
                lost += deduct(leg, points[leg]);
            }
            return lost;
        }

        int sumOfPoints() {
            int sum = 0;
            for (int leg = 0; leg < legCount; leg++) {
                sum += points[leg];
            }
            return sum;
        }

        int sumOfLosses() {
            return lostOffLine + lostAtGates + lostByFaults + lostOverTime;
        }

        /** Compares all that the ranking looks at before the numbers: negative if this run is better. */
        int compareForRank(Run other) {
            int order = other.sumOfPoints() - sumOfPoints();
            for (int leg = 0; leg < legCount && order == 0; leg++) {
                order = other.points[leg] - points[leg];
            }
            return order != 0 ? order : seconds - other.seconds;
        }
    }

    /** All that can be undone, saved and restored, with the commands that change it. */
    private static final class State {
        final Course course = new Course();
        final Run[] runs = new Run[MAX_RUNS];
        int runCount = 0;
        boolean running = false;
        int presentLeg = 0;
        int flockX = 0;
        int flockY = 0;

        State() {
            for (int run = 0; run < MAX_RUNS; run++) {
                runs[run] = new Run();
            }
        }

        void copyFrom(State other) {
            course.copyFrom(other.course);
            runCount = other.runCount;
            for (int run = 0; run < runCount; run++) {
                runs[run].copyFrom(other.runs[run]);
            }
            running = other.running;
            presentLeg = other.presentLeg;
            flockX = other.flockX;
            flockY = other.flockY;
        }

        int placeStart(int x, int y) {
            if (!isPoint(x, y)) {
                return BAD_ARGUMENT;
            }
            if (runCount > 0) {
                return BAD_STATE;
            }
            course.startX = x;
            course.startY = y;
            return course.legCount;
        }

        int appendLeg(int x, int y, int points) {
            if (!isPoint(x, y) || !isWithin(points, 1, MAX_LEG_POINTS)) {
                return BAD_ARGUMENT;
            }
            int leg = course.legCount;
            if (leg >= MAX_LEGS || runCount > 0) {
                return BAD_STATE;
            }
            course.legEndX[leg] = x;
            course.legEndY[leg] = y;
            course.legPoints[leg] = points;
            course.legCount = leg + 1;
            return leg;
        }

        int appendGate(int leg, int x1, int y1, int x2, int y2) {
            if (!course.hasLeg(leg)) {
                return NO_SUCH_INDEX;
            }
            if (!isPoint(x1, y1) || !isPoint(x2, y2) || x1 == x2 && y1 == y2) {
                return BAD_ARGUMENT;
            }
            int gate = course.gateCount;
            if (gate >= MAX_GATES || runCount > 0) {
                return BAD_STATE;
            }
            course.gateLeg[gate] = leg;
            course.gateX1[gate] = x1;
            course.gateY1[gate] = y1;
            course.gateX2[gate] = x2;
            course.gateY2[gate] = y2;
            course.gateCount = gate + 1;
            return gate;
        }

        int changeTolerance(int tolerance) {
            if (!isWithin(tolerance, 1, MAX_TOLERANCE)) {
                return BAD_ARGUMENT;
            }
            if (runCount > 0) {
                return BAD_STATE;
            }
            int previous = course.tolerance;
            course.tolerance = tolerance;
            return previous;
        }

        int changeTimeLimit(int seconds) {
            if (!isWithin(seconds, MIN_TIME_LIMIT, MAX_SECONDS)) {
                return BAD_ARGUMENT;
            }
            if (runCount > 0) {
                return BAD_STATE;
            }
            int previous = course.timeLimit;
            course.timeLimit = seconds;
            return previous;
        }

        int beginRun() {
            if (course.legCount == 0 || running || runCount >= MAX_RUNS) {
                return BAD_STATE;
            }
            int run = runCount;
            runs[run].begin(course);
            runCount = run + 1;
            running = true;
            presentLeg = 0;
            flockX = course.startX;
            flockY = course.startY;
            return run;
        }

        int makeStep(int x, int y, int seconds) {
            if (!isPoint(x, y) || !isWithin(seconds, 1, MAX_SECONDS)) {
                return BAD_ARGUMENT;
            }
            if (!running) {
                return BAD_STATE;
            }
            Run run = runGoingOn();
            run.seconds += seconds;
            if (run.seconds > course.timeLimit) {
                return endOverTime(run);
            }
            passGates(x, y);
            flockX = x;
            flockY = y;
            int lost = leaveLine(run);
            if (course.isNearEnd(presentLeg, x, y)) {
                lost += completeLeg(run);
            }
            return lost;
        }

        int deductFault(int points) {
            if (!isWithin(points, 1, MAX_FAULT_POINTS)) {
                return BAD_ARGUMENT;
            }
            if (!running) {
                return BAD_STATE;
            }
            Run run = runGoingOn();
            int lost = run.deduct(presentLeg, points);
            run.lostByFaults += lost;
            return lost;
        }

        int giveUpRun() {
            if (!running) {
                return BAD_STATE;
            }
            Run run = runGoingOn();
            int lost = run.deductFrom(presentLeg);
            run.lostByFaults += lost;
            running = false;
            return lost;
        }

        /** Passes the gates that a step to a point passes; answers how many. Only while a run is going on. */
        int passGates(int x, int y) {
            Run run = runGoingOn();
            int count = 0;
            int gate = firstOpenGate();
            while (gate != NONE && count < MAX_GATES && course.gateMeets(gate, flockX, flockY, x, y)) {
                run.passGate(gate);
                count++;
                gate = firstOpenGate();
            }
            return count;
        }

        /** Answers the first gate of the present leg that is not passed yet, or NONE. */
        int firstOpenGate() {
            Run run = runGoingOn();
            for (int gate = 0; gate < course.gateCount; gate++) {
                if (course.gateLeg[gate] == presentLeg && !run.isGatePassed(gate)) {
                    return gate;
                }
            }
            return NONE;
        }

        private int endOverTime(Run run) {
            int lost = run.deductFrom(presentLeg);
            run.lostOverTime += lost;
            running = false;
            return lost;
        }

        private int leaveLine(Run run) {
            if (!course.isOffLeg(presentLeg, flockX, flockY)) {
                return 0;
            }
            int lost = run.deduct(presentLeg, 1);
            run.lostOffLine += lost;
            return lost;
        }

        private int completeLeg(Run run) {
            int lost = run.deduct(presentLeg, GATE_POINTS * countOpenGates(run));
            run.lostAtGates += lost;
            if (presentLeg + 1 < course.legCount) {
                presentLeg++;
            } else {
                running = false;
                run.complete = true;
            }
            return lost;
        }

        private int countOpenGates(Run run) {
            int count = 0;
            for (int gate = 0; gate < course.gateCount; gate++) {
                if (course.gateLeg[gate] == presentLeg && !run.isGatePassed(gate)) {
                    count++;
                }
            }
            return count;
        }

        // The run that is going on is always the latest one; without any run,
        // this is the empty row of run 0.
        private Run runGoingOn() {
            return runs[Math.max(0, runCount - 1)];
        }

        boolean isGoingOn(int run) {
            return running && run == runCount - 1;
        }

        private boolean isRankedBefore(int run, int other) {
            int order = runs[run].compareForRank(runs[other]);
            return order < 0 || order == 0 && run < other;
        }

        int countRunsBefore(int run) {
            int count = 0;
            for (int other = 0; other < runCount; other++) {
                if (isRankedBefore(other, run)) {
                    count++;
                }
            }
            return count;
        }

        /** Puts the numbers of the runs into a row in the order of the ranking. */
        void sortRuns(int[] row) {
            for (int run = 0; run < runCount; run++) {
                int place = run;
                while (place > 0 && isRankedBefore(run, row[place - 1])) {
                    row[place] = row[place - 1];
                    place--;
                }
                row[place] = run;
            }
        }

        int bestRunOn(int leg) {
            int best = 0;
            for (int run = 1; run < runCount; run++) {
                if (runs[run].points[leg] > runs[best].points[leg]) {
                    best = run;
                }
            }
            return best;
        }

        int sumOfScores() {
            int sum = 0;
            for (int run = 0; run < runCount; run++) {
                sum += runs[run].sumOfPoints();
            }
            return sum;
        }

        int countRunsThrough(int gate) {
            int count = 0;
            for (int run = 0; run < runCount; run++) {
                if (runs[run].isGatePassed(gate)) {
                    count++;
                }
            }
            return count;
        }

        /** Answers whether a run holds the invariants that concern no other run. */
        boolean isSound(int number) {
            Run run = runs[number];
            for (int leg = 0; leg < course.legCount; leg++) {
                if (run.points[leg] > course.legPoints[leg]) {
                    return false;
                }
            }
            return run.sumOfPoints() == course.sumOfPoints() - run.sumOfLosses()
                    && !(run.complete && isGoingOn(number));
        }
    }

    /** The states before the latest changes, in a ring whose rows are used again. */
    private static final class History {
        private final State[] states = new State[MAX_UNDO];
        private int next = 0;
        int count = 0;

        History() {
            for (int i = 0; i < MAX_UNDO; i++) {
                states[i] = new State();
            }
        }

        void push(State state) {
            states[next].copyFrom(state);
            next = (next + 1) % MAX_UNDO;
            count = Math.min(count + 1, MAX_UNDO);
        }

        /** Takes the latest state off into another; only if there is one. */
        void popInto(State state) {
            next = (next + MAX_UNDO - 1) % MAX_UNDO;
            count--;
            state.copyFrom(states[next]);
        }

        void clear() {
            count = 0;
        }
    }

    /** The program buffer, and the commands that were found in it. */
    private static final class Program {
        static final int MAX_LENGTH = 60;

        // The shortest command and a ";" take 4 characters.
        private static final int MAX_COMMANDS = MAX_LENGTH / 4 + 1;
        private static final int MAX_ARGUMENTS = 5;

        private static final int START = 0;
        private static final int LEG = 1;
        private static final int GATE = 2;
        private static final int LIMIT = 3;
        private static final int WIDTH = 4;
        private static final int RUN = 5;
        private static final int WALK = 6;
        private static final int FAULT = 7;
        private static final int RETIRE = 8;

        // In a pattern, these stand for a number and for a single digit.
        private static final char NUMBER = '#';
        private static final char DIGIT = '?';

        private final char[] text = new char[MAX_LENGTH];
        int length = 0;
        int commandCount = 0;
        private final int[] kinds = new int[MAX_COMMANDS];
        private final int[] arguments = new int[MAX_COMMANDS * MAX_ARGUMENTS];
        private int reached = 0;

        /** Only if the buffer is not full. */
        void append(char character) {
            text[length] = character;
            length++;
        }

        /** Empties the buffer; the commands found in it stay. */
        void clear() {
            length = 0;
        }

        /** Finds the commands of the text; answers NONE, or the error position if it is not a program. */
        int parse() {
            commandCount = 0;
            int position = 0;
            while (commandCount < MAX_COMMANDS) {
                if (!parseCommand(position)) {
                    return reached;
                }
                commandCount++;
                if (reached == length) {
                    return NONE;
                }
                if (text[reached] != ';') {
                    return reached;
                }
                position = reached + 1;
            }
            return length;
        }

        // The kind of command that gets farthest tells where the text goes
        // wrong, because up to there a program could continue.
        private boolean parseCommand(int position) {
            int farthest = position;
            for (int kind = START; kind <= RETIRE; kind++) {
                if (matches(patternOf(kind), position)) {
                    kinds[commandCount] = kind;
                    return true;
                }
                farthest = Math.max(farthest, reached);
            }
            reached = farthest;
            return false;
        }

        private static String patternOf(int kind) {
            switch (kind) {
                case START:
                    return "start #,#";
                case LEG:
                    return "leg #,#=#";
                case GATE:
                    return "gate ? #,#-#,#";
                case LIMIT:
                    return "limit #";
                case WIDTH:
                    return "width #";
                case RUN:
                    return "run";
                case WALK:
                    return "walk #,#+#";
                case FAULT:
                    return "fault ?";
                default:
                    return "retire";
            }
        }

        /** Compares the text with a pattern and keeps the numbers; where it ends is then in reached. */
        private boolean matches(String pattern, int position) {
            reached = position;
            int argument = commandCount * MAX_ARGUMENTS;
            for (int i = 0; i < pattern.length(); i++) {
                char wanted = pattern.charAt(i);
                if (wanted == NUMBER || wanted == DIGIT) {
                    int from = reached;
                    skipDigits(wanted == NUMBER ? 3 : 1);
                    if (reached == from) {
                        return false;
                    }
                    arguments[argument] = valueOfDigits(from, reached);
                    argument++;
                } else if (reached < length && text[reached] == wanted) {
                    reached++;
                } else {
                    return false;
                }
            }
            return true;
        }

        private void skipDigits(int most) {
            int end = Math.min(length, reached + most);
            while (reached < end && isWithin(text[reached], '0', '9')) {
                reached++;
            }
        }

        private int valueOfDigits(int from, int to) {
            int value = 0;
            for (int i = from; i < to; i++) {
                value = value * 10 + (text[i] - '0');
            }
            return value;
        }

        /** Executes the commands on a state in order; answers NONE, or the number of the one that failed. */
        int performOn(State state) {
            for (int command = 0; command < commandCount; command++) {
                if (perform(state, command) < 0) {
                    return command;
                }
            }
            return NONE;
        }

        private int perform(State state, int command) {
            int first = command * MAX_ARGUMENTS;
            int a = arguments[first];
            int b = arguments[first + 1];
            int c = arguments[first + 2];
            switch (kinds[command]) {
                case START:
                    return state.placeStart(a, b);
                case LEG:
                    return state.appendLeg(a, b, c);
                case GATE:
                    return state.appendGate(a, b, c, arguments[first + 3], arguments[first + 4]);
                case LIMIT:
                    return state.changeTimeLimit(a);
                case WIDTH:
                    return state.changeTolerance(a);
                case RUN:
                    return state.beginRun();
                case WALK:
                    return state.makeStep(a, b, c);
                case FAULT:
                    return state.deductFault(a);
                default:
                    return state.giveUpRun();
            }
        }
    }

    /** The output line. */
    private static final class Line {
        // Eight runs with scores of three digits take 47 signs, a run with six
        // legs takes 24.
        private static final int MAX_LENGTH = 64;

        final char[] signs = new char[MAX_LENGTH];
        int length = 0;

        void clear() {
            length = 0;
        }

        void put(char sign) {
            if (length < MAX_LENGTH) {
                signs[length] = sign;
                length++;
            }
        }

        /** Puts a number from 0 to 999. */
        void putNumber(int number) {
            if (number >= 100) {
                putDigit(number / 100);
            }
            if (number >= 10) {
                putDigit(number / 10 % 10);
            }
            putDigit(number % 10);
        }

        private void putDigit(int digit) {
            put((char) ('0' + digit));
        }
    }
}
