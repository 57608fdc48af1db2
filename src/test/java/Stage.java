import java.util.EnumMap;
import java.util.Map;
import java.util.function.Supplier;

/**
 * Trials to make refused calls on. Each but NEW has changes to undo, a saved state other than the present one, a
 * written line, characters in the program buffer, an error position and a failed command.
 */
enum Stage {
    /** Nothing yet: 0 legs, 0 gates, 0 runs. */
    NEW(SheepdogTrial::new, ""),
    /** 2 legs and 2 gates, no run. */
    COURSE(Stage::course, "ru"),
    /** 2 legs, 2 gates and 2 runs; run 1 is going on and on leg 1 with an open gate. */
    RUNNING(Stage::running, "ru"),
    /** As RUNNING, but every gate of the present leg is passed. */
    PASSED(Stage::passed, "ru"),
    /** 2 legs, 2 gates and 3 runs: complete, retired, over the time limit. */
    ENDED(Stage::ended, "ru"),
    /** 6 legs and 6 gates, no run; the program buffer is full. */
    FULL_COURSE(Stage::fullCourse, Stage.SIXTY_CHARACTERS),
    /** 6 legs, 6 gates and 8 runs; run 7 is going on; the program buffer is full. */
    FULL_RUNNING(Stage::fullRunning, Stage.SIXTY_CHARACTERS),
    /** 6 legs, 6 gates and 8 runs, all ended; the program buffer is full. */
    FULL_ENDED(Stage::fullEnded, Stage.SIXTY_CHARACTERS);

    static final Stage[] WITHOUT_A_RUN_GOING_ON = {NEW, COURSE, ENDED, FULL_COURSE, FULL_ENDED};
    static final Stage[] WITH_A_RUN_GOING_ON = {RUNNING, PASSED, FULL_RUNNING};
    static final Stage[] AFTER_THE_FIRST_RUN = {RUNNING, PASSED, ENDED, FULL_RUNNING, FULL_ENDED};

    /** Where the legs of the stages end, the later ones of the full stages at one point. */
    static final int[][] ENDS = {{50, 10}, {50, 50}, {20, 50}, {20, 90}, {20, 90}, {20, 90}};

    static final String SIXTY_CHARACTERS =
            "limit 600;limit 600;limit 600;limit 600;width 10;width 5;run";

    private final Supplier<SheepdogTrial> maker;
    private final String typed;
    private final Map<Probe, String> portraits = new EnumMap<>(Probe.class);

    Stage(Supplier<SheepdogTrial> maker, String typed) {
        this.maker = maker;
        this.typed = typed;
    }

    SheepdogTrial make() {
        return makeWithText(typed);
    }

    /** Answers a trial of this stage with another text in its program buffer. */
    SheepdogTrial makeWithText(String text) {
        SheepdogTrial trial = maker.get();
        Check.type(trial, text);
        return trial;
    }

    /** Answers what a trial of this stage shows if no call is made on it. */
    String portrait(Probe probe) {
        return portraits.computeIfAbsent(probe, p -> p.of(make()));
    }

    private static SheepdogTrial course() {
        SheepdogTrial trial = Check.twoLegs();
        prepare(trial);
        return trial;
    }

    // Saves a state that no stage is in, writes a line and records an error
    // position and a failed command.
    private static void prepare(SheepdogTrial trial) {
        trial.startRun();
        trial.fault(7);
        trial.save();
        trial.writeRun(0);
        trial.undo();
        trial.undo();
        Check.execute(trial, "run;x");
        Check.execute(trial, "run;retire;fault 3");
    }

    private static SheepdogTrial running() {
        SheepdogTrial trial = course();
        trial.startRun();
        trial.walk(29, 16, 3);
        trial.walk(50, 10, 20);
        trial.walk(50, 50, 30);
        trial.startRun();
        trial.walk(50, 10, 25);
        return trial;
    }

    private static SheepdogTrial passed() {
        SheepdogTrial trial = running();
        trial.walk(51, 31, 4);
        return trial;
    }

    private static SheepdogTrial ended() {
        SheepdogTrial trial = running();
        trial.fault(2);
        trial.retire();
        trial.startRun();
        trial.walk(40, 10, 599);
        trial.walk(50, 10, 2);
        return trial;
    }

    private static SheepdogTrial fullCourse() {
        SheepdogTrial trial = new SheepdogTrial();
        trial.setStart(10, 10);
        for (int leg = 0; leg < ENDS.length; leg++) {
            trial.addLeg(ENDS[leg][0], ENDS[leg][1], 5 + 5 * leg);
        }
        for (int gate = 0; gate < 6; gate++) {
            trial.addGate(gate % 4, 12 + 5 * gate, 8, 12 + 5 * gate, 50);
        }
        prepare(trial);
        return trial;
    }

    private static SheepdogTrial fullRunning() {
        SheepdogTrial trial = fullCourse();
        for (int run = 0; run < 8; run++) {
            trial.startRun();
            for (int leg = 0; leg < run && run < 7; leg++) {
                trial.walk(ENDS[leg][0], ENDS[leg][1], 10 + run);
            }
            if (run < 6) {
                trial.retire();
            }
        }
        trial.walk(21, 10, 5);
        return trial;
    }

    private static SheepdogTrial fullEnded() {
        SheepdogTrial trial = fullRunning();
        trial.fault(4);
        trial.retire();
        return trial;
    }
}
