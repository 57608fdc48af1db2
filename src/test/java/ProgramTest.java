/** Promises 47 to 50: programs. */
final class ProgramTest {
    private ProgramTest() {
    }

    static void run() {
        type();
        everyCommand();
        manyCommands();
        errorPositions();
        failedCommands();
        allOrNothing();
        recordsStay();
    }

    private static void type() {
        SheepdogTrial trial = new SheepdogTrial();
        Check.equal("type the first", 1, trial.type('r'));
        Check.equal("type any character", 2, trial.type((char) 65535));
        for (int i = 3; i <= 60; i++) {
            Check.equal("type", i, trial.type('x'));
        }
        Check.refused("a 61st character", Check.STATE, () -> trial.type('x'));
        Check.refused("execute", Check.ARGUMENT, trial::execute);
        Check.equal("the position of character 65535", 1, trial.errorPosition());
        Check.equal("the buffer is empty after an error", 1, trial.type('r'));
        trial.addLeg(1, 1, 1);
        trial.startRun();
        trial.undo();
        Check.equal("undo leaves the buffer", 2, trial.type('u'));
        trial.save();
        trial.restore();
        Check.equal("restore leaves the buffer", 3, trial.type('n'));
        Check.equal("execute", 1, trial.execute());
        Check.equal("the run", 1, trial.runs());
        Check.equal("the buffer is empty after a program", 1, trial.type('r'));
    }

    private static void everyCommand() {
        SheepdogTrial trial = new SheepdogTrial();
        Check.equal("the course", 4, Check.execute(trial, "start 07,099;leg 50,9=020;gate 0 30,5-30,15;limit 60"));
        Check.equal("legs", 1, trial.legs());
        Check.equal("legPoints", 20, trial.legPoints(0));
        Check.equal("gates", 1, trial.gates());
        Check.equal("timeLimit", 60, trial.timeLimit());
        Check.equal("the tolerance and a run", 2, Check.execute(trial, "width 20;run"));
        Check.equal("tolerance", 20, trial.tolerance());
        Check.equal("flockX", 7, trial.flockX());
        Check.equal("flockY", 99, trial.flockY());
        Check.equal("steps and a fault", 3, Check.execute(trial, "walk 29,12+7;fault 3;walk 31,9+008"));
        Check.equal("x", 31, trial.flockX());
        Check.equal("y", 9, trial.flockY());
        Check.equal("time", 15, trial.time(0));
        Check.equal("faultLoss", 3, trial.faultLoss(0));
        Check.isTrue("gate", trial.hasPassed(0, 0));
        Check.equal("retire", 1, Check.execute(trial, "retire"));
        Check.isFalse("the run has ended", trial.isRunning());
        SheepdogTrial gates = Check.twoLegs();
        Check.equal("a gate on leg 1", 1, Check.execute(gates, "gate 1 1,2-3,4"));
        Check.equal("legOf", 1, gates.legOf(2));
        Check.equal("a gate before another command", 2, Check.execute(gates, "gate 0 20,12-20,14;run"));
        gates.walk(35, 10, 1);
        Check.isFalse("the step is below its posts", gates.hasPassed(0, 3));
        gates.walk(15, 16, 1);
        Check.isFalse("the step is above its posts", gates.hasPassed(0, 3));
        gates.walk(25, 10, 1);
        Check.isTrue("the step is between its posts", gates.hasPassed(0, 3));
    }

    private static void manyCommands() {
        SheepdogTrial trial = Check.twoLegs();
        String fiveRuns = "run;retire;".repeat(5);
        Check.equal("eleven commands", 11, Check.execute(trial, fiveRuns + "run"));
        Check.equal("six runs", 6, trial.runs());
        Check.equal("fifteen commands and a ';'", "IllegalArgumentException", Check.execute(trial, "run;".repeat(15)));
        Check.equal("its error position", 60, trial.errorPosition());
        Check.equal("fifteen commands", "UnsupportedOperationException",
                Check.execute(trial, "run;".repeat(14) + "run"));
        Check.equal("its failed command in a run", 0, trial.failedCommand());
        trial.retire();
        Check.equal("fifteen commands again", "UnsupportedOperationException",
                Check.execute(trial, "run;".repeat(14) + "run"));
        Check.equal("its failed command", 1, trial.failedCommand());
    }

    private static void errorPositions() {
        String[] prefixes = {"", "s", "start", "start ", "start 1", "start 123,", "l", "le", "li", "leg 1,2",
            "leg 1,2=", "gate 0", "gate 0 1,2-3,", "limit ", "w", "wi", "wa", "width ", "r", "ru", "re", "retir", "walk 1,2+",
            "run;", "fault ", "run;run;f", "limit 1;"};
        for (String text : prefixes) {
            expectError(text, text.length());
        }
        // Before the bar, a program could continue.
        String[] wrong = {"|x", "| run", "|Run", "|;", "run|x", "run|,", "run| ", "run|s", "run;|;", "run;| run",
            "re|n", "l|ag", "le|x", "li|g", "wa|x", "wi|l", "start|1", "start |,", "start 123|4", "start 1|;", "start 1|=",
            "start 1,2|,3", "start 1,2|-", "start |-1", "leg 1,2|;", "leg 1,2|+3", "leg 1,2=3|=", "gate |a", "gate 1|1",
            "gate 0 |a", "gate 0 1,1|,", "gate 0 1,1-1|-", "gate 0 1,1-1,123|4", "gate 0 11|-1", "limit |x",
            "limit 600|0", "width 5|x", "walk 1,2|=3", "walk 1,2+3|s", "fault |x", "fault 1|1", "retire|d", "run;walk 1,1+1;|x",
            "run;wa|k", "limit |/", "limit |:", "limit |#", "fault |?"};
        for (String text : wrong) {
            int bar = text.indexOf('|');
            expectError(text.substring(0, bar) + text.substring(bar + 1), bar);
        }
    }

    private static void expectError(String text, int position) {
        SheepdogTrial trial = Check.twoLegs();
        Check.equal("'" + text + "'", "IllegalArgumentException", Check.execute(trial, text));
        Check.equal("error position of '" + text + "'", position, trial.errorPosition());
        Check.refused("a text that is no program has no failed command", Check.ELEMENT, trial::failedCommand);
        Check.equal("a text that is no program starts no run", 0, trial.runs());
    }

    private static void failedCommands() {
        expectFailure("start 100,0", 0);
        expectFailure("start 0,100", 0);
        expectFailure("leg 1,1=0", 0);
        expectFailure("leg 1,1=31", 0);
        expectFailure("gate 2 1,1-2,2", 0);
        expectFailure("gate 9 1,1-2,2", 0);
        expectFailure("gate 0 1,1-1,1", 0);
        expectFailure("limit 59", 0);
        expectFailure("width 21", 0);
        expectFailure("walk 1,1+1", 0);
        expectFailure("fault 1", 0);
        expectFailure("retire", 0);
        expectFailure("run;run", 1);
        expectFailure("run;start 1,1", 1);
        expectFailure("run;leg 1,1=1", 1);
        expectFailure("run;gate 0 1,1-2,2", 1);
        expectFailure("run;limit 60", 1);
        expectFailure("run;width 5", 1);
        expectFailure("run;walk 1,1+0", 1);
        expectFailure("run;fault 0", 1);
        expectFailure("run;retire;retire", 2);
        expectFailure("run;retire;run;fault 1;walk 100,1+1;run", 4);
    }

    private static void expectFailure(String text, int command) {
        SheepdogTrial trial = Check.twoLegs();
        int before = changesLeft(trial);
        Check.equal("'" + text + "'", "UnsupportedOperationException", Check.execute(trial, text));
        Check.equal("failed command of '" + text + "'", command, trial.failedCommand());
        Check.refused("a program has no error position", Check.ELEMENT, trial::errorPosition);
        Check.equal("no run is started", 0, trial.runs());
        Check.equal("the buffer is empty", 1, trial.type('r'));
        Check.equal("a failure is no change", before, changesLeft(trial));
    }

    // Tries it on the trial itself, by a change that is undone.
    private static int changesLeft(SheepdogTrial trial) {
        trial.setTolerance(trial.tolerance());
        return trial.undo();
    }

    private static void allOrNothing() {
        SheepdogTrial trial = Check.twoLegs();
        trial.save();
        trial.restore();
        trial.setTolerance(9);
        Check.equal("the last command fails", "UnsupportedOperationException",
                Check.execute(trial, "start 1,1;leg 2,2=3;limit 99;width 3;run;fault 0"));
        Check.equal("legs", 2, trial.legs());
        Check.equal("timeLimit", 600, trial.timeLimit());
        Check.equal("tolerance", 9, trial.tolerance());
        Check.equal("runs", 0, trial.runs());
        trial.startRun();
        Check.equal("the start", 10, trial.flockX());
        trial.undo();
        Check.equal("all succeed", 4, Check.execute(trial, "start 1,1;leg 2,2=3;run;fault 9"));
        Check.equal("a program is one change", 1, trial.undo());
        Check.equal("legs after undo", 2, trial.legs());
        Check.equal("runs after undo", 0, trial.runs());
    }

    private static void recordsStay() {
        SheepdogTrial trial = Check.twoLegs();
        Check.execute(trial, "run;x");
        Check.execute(trial, "run;run");
        Check.equal("the error position stays after a failure", 4, trial.errorPosition());
        Check.execute(trial, "run");
        Check.execute(trial, "fault");
        Check.equal("the failed command stays after an error", 1, trial.failedCommand());
        Check.equal("the latest error position", 5, trial.errorPosition());
        Check.execute(trial, "fault 0");
        Check.equal("the latest failed command", 0, trial.failedCommand());
        trial.undo();
        trial.save();
        trial.restore();
        Check.equal("undo and restore leave the error position", 5, trial.errorPosition());
        Check.equal("undo and restore leave the failed command", 0, trial.failedCommand());
    }
}
