/**
 * What a trial answers, as one text, so that two trials can be compared. Every portrait makes few enough calls that a
 * trial stays below its 512.
 */
final class Portrait {
    private static final int GRID = 49;
    private static final int LONGEST_CHAIN = 10;

    private Portrait() {
    }

    /** All that can be asked of the course, the runs and the ranking. */
    static String answers(SheepdogTrial trial) {
        int legs = trial.legs();
        int gates = trial.gates();
        int runs = trial.runs();
        StringBuilder text = new StringBuilder();
        add(text, "all", trial.totalPoints(), Check.outcome(trial::meanScore), trial.isConsistent());
        present(text, trial);
        for (int i = 0; i < legs; i++) {
            int leg = i;
            add(text, "leg " + leg, trial.legPoints(leg), Check.outcome(() -> trial.bestOn(leg)));
        }
        for (int i = 0; i < gates; i++) {
            int gate = i;
            add(text, "gate " + gate, trial.legOf(gate), trial.isOnLine(gate),
                    Check.outcome(() -> trial.passRate(gate)));
        }
        for (int run = 0; run < runs; run++) {
            result(text, trial, run, legs, gates);
        }
        if (trial.isRunning()) {
            places(text, trial);
        }
        return text.toString();
    }

    private static void present(StringBuilder text, SheepdogTrial trial) {
        add(text, "course", trial.legs(), trial.gates(), trial.tolerance(), trial.timeLimit());
        add(text, "run", trial.runs(), trial.isRunning(), Check.outcome(trial::presentLeg),
                Check.outcome(trial::flockX), Check.outcome(trial::flockY), Check.outcome(trial::nextGate));
    }

    private static void result(StringBuilder text, SheepdogTrial trial, int run, int legs, int gates) {
        add(text, "result " + run, trial.isComplete(run), trial.time(run), trial.score(run), trial.scoreByLosses(run));
        add(text, "losses", trial.lineLoss(run), trial.gateLoss(run), trial.faultLoss(run), trial.timeLoss(run));
        add(text, "rank", trial.rankOf(run), trial.runAt(run));
        for (int leg = 0; leg < legs; leg++) {
            add(text, "points", trial.pointsOn(run, leg));
        }
        for (int gate = 0; gate < gates; gate++) {
            add(text, "passed", trial.hasPassed(run, gate));
        }
    }

    private static void places(StringBuilder text, SheepdogTrial trial) {
        for (int x = 0; x < 100; x += GRID) {
            for (int y = 0; y < 100; y += GRID) {
                add(text, x + "," + y, trial.gatesPassedTo(x, y), trial.isOffLine(x, y), trial.lossOfStep(x, y, 1));
            }
        }
    }

    /** What tells two states of a trial apart, by fewer calls. */
    static String brief(SheepdogTrial trial) {
        StringBuilder text = new StringBuilder();
        present(text, trial);
        int runs = trial.runs();
        for (int run = 0; run < runs; run++) {
            add(text, "result", trial.score(run), trial.time(run));
        }
        return text.toString();
    }

    /** The error position and the failed command. */
    static String records(SheepdogTrial trial) {
        return Check.outcome(trial::errorPosition) + " " + Check.outcome(trial::failedCommand);
    }

    /** How many characters the program buffer still takes. */
    static String roomInBuffer(SheepdogTrial trial) {
        int taken = 0;
        while (taken < 100 && Check.outcome(() -> trial.type('x')) instanceof Integer) {
            taken++;
        }
        return "room for " + taken;
    }

    /** What comes of the text in the buffer, with an "n" behind it if there is room. */
    static String textInBuffer(SheepdogTrial trial) {
        Check.outcome(() -> trial.type('n'));
        return Check.outcome(trial::execute) + " " + records(trial) + " " + brief(trial);
    }

    /** The states before every change that can be undone. */
    static String undoneChanges(SheepdogTrial trial) {
        StringBuilder text = new StringBuilder();
        Object left = Check.outcome(trial::undo);
        for (int i = 0; i < LONGEST_CHAIN && left instanceof Integer; i++) {
            add(text, "left", left, brief(trial));
            left = Check.outcome(trial::undo);
        }
        add(text, "no more", left);
        return text.toString();
    }

    /** The answers after the saved state is restored. */
    static String savedState(SheepdogTrial trial) {
        return Check.outcome(trial::restore) + " " + answers(trial) + nextRun(trial);
    }

    /** The states in the next run, which show the start, the legs and the gates. */
    static String nextRun(SheepdogTrial trial) {
        StringBuilder text = new StringBuilder();
        add(text, "start", Check.outcome(trial::startRun), brief(trial));
        for (int[] place : Stage.ENDS) {
            add(text, "walk", Check.outcome(() -> trial.walk(place[0], place[1], 1)), brief(trial));
        }
        return text.toString();
    }

    private static void add(StringBuilder text, String name, Object... values) {
        text.append(name);
        for (Object value : values) {
            text.append(' ').append(value);
        }
        text.append('\n');
    }
}
