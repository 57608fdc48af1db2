/** Promises 44 to 46: the output line. */
final class OutputTest {
    private OutputTest() {
    }

    static void run() {
        writeRun();
        writeRanking();
        longestLines();
    }

    private static void writeRun() {
        SheepdogTrial trial = Check.twoLegsRunning();
        Check.equal("a run that is going on", 11, trial.writeRun(0));
        Check.equal("its line", "0:20+10=30*", Check.line(trial));
        trial.fault(9);
        trial.fault(3);
        trial.walk(50, 10, 1);
        trial.fault(9);
        trial.fault(1);
        trial.walk(50, 50, 1);
        Check.equal("the line stays", "0:20+10=30*", Check.line(trial));
        Check.equal("a run that is complete", 8, trial.writeRun(0));
        Check.equal("its line", "0:8+0=8!", Check.line(trial));
        trial.startRun();
        trial.retire();
        Check.equal("a run that was retired", 7, trial.writeRun(1));
        Check.equal("its line", "1:0+0=0", Check.line(trial));
        Check.refused("writeRun -1", Check.INDEX, () -> trial.writeRun(-1));
        Check.refused("writeRun 2", Check.INDEX, () -> trial.writeRun(2));
        Check.equal("a refusal leaves the line", "1:0+0=0", Check.line(trial));
        Check.refused("charAt -1", Check.INDEX, () -> trial.charAt(-1));
        Check.refused("charAt 7", Check.INDEX, () -> trial.charAt(7));
        Check.equal("charAt 6", '0', trial.charAt(6));
        trial.undo();
        Check.equal("undo leaves the line", "1:0+0=0", Check.line(trial));
        trial.writeRun(1);
        Check.equal("the retired run goes on again", "1:20+10=30*", Check.line(trial));
    }

    private static void writeRanking() {
        SheepdogTrial trial = Check.twoLegs();
        Check.equal("no runs", 0, trial.writeRanking());
        Check.equal("the empty line", "", Check.line(trial));
        trial.startRun();
        Check.equal("one run", 4, trial.writeRanking());
        Check.equal("its line", "0=30", Check.line(trial));
        trial.retire();
        trial.startRun();
        Check.equal("two runs", 8, trial.writeRanking());
        Check.equal("their line", "1=30 0=0", Check.line(trial));
        SheepdogTrial empty = Check.twoLegs();
        empty.startRun();
        empty.writeRun(0);
        empty.undo();
        Check.equal("an empty ranking replaces the line", 0, empty.writeRanking());
        Check.equal("the replaced line", "", Check.line(empty));
    }

    private static void longestLines() {
        SheepdogTrial trial = new SheepdogTrial();
        for (int leg = 0; leg < 6; leg++) {
            trial.addLeg(50, 50, 30);
        }
        StringBuilder ranking = new StringBuilder();
        for (int run = 0; run < 8; run++) {
            trial.startRun();
            for (int leg = 0; leg < 6; leg++) {
                trial.walk(50, 50, 1);
            }
            ranking.append(run == 0 ? "" : " ").append(run).append("=180");
        }
        Check.equal("the longest run", 24, trial.writeRun(7));
        Check.equal("its line", "7:30+30+30+30+30+30=180!", Check.line(trial));
        Check.equal("the longest ranking", 47, trial.writeRanking());
        Check.equal("its line", ranking.toString(), Check.line(trial));
        SheepdogTrial hundred = new SheepdogTrial();
        for (int leg = 0; leg < 4; leg++) {
            hundred.addLeg(50, 50, leg == 3 ? 19 : 30);
        }
        hundred.startRun();
        hundred.writeRanking();
        Check.equal("a score of 109", "0=109", Check.line(hundred));
        hundred.fault(9);
        hundred.writeRanking();
        Check.equal("a score of 100", "0=100", Check.line(hundred));
        hundred.fault(1);
        hundred.writeRanking();
        Check.equal("a score of 99", "0=99", Check.line(hundred));
        SheepdogTrial ten = new SheepdogTrial();
        ten.addLeg(50, 50, 10);
        ten.startRun();
        ten.writeRun(0);
        Check.equal("a score of 10", "0:10=10*", Check.line(ten));
        ten.fault(1);
        ten.writeRun(0);
        Check.equal("a score of 9", "0:9=9*", Check.line(ten));
    }
}
