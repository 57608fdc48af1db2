/** The edges of promises 44 to 46, sentence by sentence. */
final class OutputBoundaryTest {
    private OutputBoundaryTest() {
    }

    static void run() {
        lineIsEmptyAtFirst();
        indexesOfTheLine();
        runIndexes();
        plusBetweenTwo();
        starAndMark();
        emptyRanking();
        blankBetweenTwo();
        numbersOfOneToThreeDigits();
        contentIsReplaced();
        lineIsNotPartOfTheState();
    }

    // "the output line, which is initially empty"
    private static void lineIsEmptyAtFirst() {
        Refusal.index("charAt", 0, SheepdogTrial::charAt, Stage.NEW);
        Check.equal("the first line", "", Check.line(new SheepdogTrial()));
    }

    // "Throws IndexOutOfBoundsException if the index is negative or not less
    // than the length"
    private static void indexesOfTheLine() {
        for (Stage stage : Stage.values()) {
            int length = Check.line(stage.make()).length();
            Refusal.index("charAt", length, SheepdogTrial::charAt, stage);
        }
        for (Stage stage : Stage.AFTER_THE_FIRST_RUN) {
            SheepdogTrial trial = stage.make();
            int length = trial.writeRanking();
            Check.equal("the first sign on " + stage, (char) ('0' + trial.runAt(0)), trial.charAt(0));
            int score = trial.score(trial.runAt(trial.runs() - 1));
            Check.equal("the last sign on " + stage, (char) ('0' + score % 10), trial.charAt(length - 1));
            Check.refused("behind the last sign", Check.INDEX, () -> trial.charAt(length));
            Check.refused("before the first sign", Check.INDEX, () -> trial.charAt(-1));
        }
    }

    // "Throws IndexOutOfBoundsException if there is no such run"
    private static void runIndexes() {
        for (Stage stage : Stage.values()) {
            SheepdogTrial trial = stage.make();
            Refusal.index("writeRun", trial.runs(), SheepdogTrial::writeRun, stage);
            for (int run = 0; run < trial.runs(); run++) {
                int length = trial.writeRun(run);
                Check.equal("the number of the run", (char) ('0' + run), trial.charAt(0));
                Check.equal("the length of the line", length, Check.line(trial).length());
            }
        }
    }

    // "its points on all legs with "+" between two", from one leg to six
    private static void plusBetweenTwo() {
        SheepdogTrial course = new SheepdogTrial();
        String points = "";
        for (int leg = 0; leg < 6; leg++) {
            course.addLeg(50, 50, 9 + leg);
            points += (leg == 0 ? "" : "+") + (9 + leg);
            course.startRun();
            String due = "0:" + points + "=" + course.totalPoints() + "*";
            Check.equal("the length with " + (leg + 1) + " legs", due.length(), course.writeRun(0));
            Check.equal("the line with " + (leg + 1) + " legs", due, Check.line(course));
            course.undo();
        }
    }

    // "and then "*" if it is going on, or "!" if it is complete"
    private static void starAndMark() {
        SheepdogTrial trial = Check.twoLegsRunning();
        expectRun(trial, 0, "0:20+10=30*");
        trial.walk(35, 10, 1);
        trial.walk(50, 10, 1);
        expectRun(trial, 0, "0:20+10=30*");
        trial.walk(50, 50, 1);
        expectRun(trial, 0, "0:20+10=30!");
        trial.startRun();
        expectRun(trial, 0, "0:20+10=30!");
        expectRun(trial, 1, "1:20+10=30*");
        trial.retire();
        expectRun(trial, 1, "1:0+0=0");
        trial.startRun();
        trial.walk(50, 10, 1);
        trial.walk(50, 10, 600);
        expectRun(trial, 2, "2:20+0=20");
        trial.startRun();
        expectRun(trial, 2, "2:20+0=20");
        expectRun(trial, 3, "3:20+10=30*");
    }

    private static void expectRun(SheepdogTrial trial, int run, String due) {
        Check.equal("the length of " + due, due.length(), trial.writeRun(run));
        Check.equal("the line of run " + run, due, Check.line(trial));
    }

    // "The line is empty if there are no runs."
    private static void emptyRanking() {
        for (Stage stage : new Stage[] {Stage.NEW, Stage.COURSE, Stage.FULL_COURSE}) {
            SheepdogTrial trial = stage.make();
            Check.equal("writeRanking without runs on " + stage, 0, trial.writeRanking());
            Check.equal("the line on " + stage, "", Check.line(trial));
            Check.refused("charAt 0 on " + stage, Check.INDEX, () -> trial.charAt(0));
        }
    }

    // "with a blank between two", from one run to eight
    private static void blankBetweenTwo() {
        SheepdogTrial trial = Check.twoLegs();
        String due = "";
        for (int run = 0; run < 8; run++) {
            trial.startRun();
            trial.fault(1 + run);
            due += (run == 0 ? "" : " ") + run + "=" + (29 - run);
            Check.equal("the length with run " + run, due.length(), trial.writeRanking());
            Check.equal("the line with run " + run, due, Check.line(trial));
            trial.walk(35, 10, 1);
            trial.walk(50, 10, 1);
            trial.walk(50, 50, 1);
        }
    }

    // Every score from 180 to 0, each on a trial of its own.
    private static void numbersOfOneToThreeDigits() {
        for (int score = 180; score >= 0; score--) {
            SheepdogTrial trial = new SheepdogTrial();
            for (int leg = 0; leg < 6; leg++) {
                trial.addLeg(50, 50, 30);
            }
            trial.startRun();
            int leg = 0;
            for (int left = 180; left > score; left--) {
                if (trial.pointsOn(0, leg) == 0) {
                    trial.walk(50, 50, 1);
                    leg++;
                }
                trial.fault(1);
            }
            Check.equal("the length of a ranking", 2 + ("" + score).length(), trial.writeRanking());
            Check.equal("the ranking", "0=" + score, Check.line(trial));
            trial.writeRun(0);
            Check.equal("the run", "0:" + points(score) + "=" + score + "*", Check.line(trial));
        }
    }

    private static String points(int score) {
        StringBuilder text = new StringBuilder();
        for (int leg = 0; leg < 6; leg++) {
            int lost = Math.max(0, Math.min(30, 180 - score - 30 * leg));
            text.append(leg == 0 ? "" : "+").append(30 - lost);
        }
        return text.toString();
    }

    // "which replaces its old content": a shorter line after a longer one.
    private static void contentIsReplaced() {
        SheepdogTrial trial = Stage.FULL_RUNNING.make();
        for (int run = 0; run < 8; run++) {
            trial.writeRanking();
            int length = trial.writeRun(run);
            Check.equal("the line after a longer one", length, Check.line(trial).length());
        }
        for (int change = 0; change < 8; change++) {
            trial.undo();
        }
        trial.restore();
        Check.equal("a ranking after a longer line", 5, trial.writeRanking());
        Check.equal("the line", "0=100", Check.line(trial));
    }

    // "everything except the program buffer, the error position, the failed
    // command and the output line"
    private static void lineIsNotPartOfTheState() {
        SheepdogTrial trial = Check.twoLegsRunning();
        trial.save();
        trial.writeRun(0);
        trial.undo();
        Check.equal("undo leaves the line", "0:20+10=30*", Check.line(trial));
        trial.writeRanking();
        trial.restore();
        Check.equal("restore leaves the line", "", Check.line(trial));
    }
}
