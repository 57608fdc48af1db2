import java.util.ArrayList;
import java.util.List;

/** The edges of promises 51 to 53, sentence by sentence. */
final class UndoBoundaryTest {
    /** One of each kind of change, in an order in which all of them succeed. */
    private static final Refusal.Call[] CHANGES = {
        t -> t.setStart(1, 2), t -> t.addLeg(50, 2, 9), t -> t.addGate(0, 20, 0, 20, 9), t -> t.setTolerance(7),
        t -> t.setTimeLimit(77), t -> t.startRun(), t -> t.walk(21, 2, 5), t -> t.fault(3), t -> t.retire(),
        t -> Check.execute(t, "run;walk 30,3+9"), t -> t.walk(50, 2, 5), t -> t.startRun(), t -> t.walk(1, 1, 99),
        t -> t.startRun(), t -> Check.execute(t, "fault 9"), t -> t.fault(9), t -> t.walk(1, 9, 1), t -> t.walk(1, 9, 1)};

    private UndoBoundaryTest() {
    }

    static void run() {
        noChange();
        eightLatestChanges();
        everyKindOfChange();
        changesThatChangeNothing();
        moreThanEightChanges();
        changesAfterUndo();
        aroundTheRing();
        lastOf512Calls();
        callsThatAreNoChange();
        nothingSaved();
        savedInPlace();
        savedStateStaysSaved();
        noUndoAfterRestore();
        saveAnswersTheRuns();
        outsideOfTheState();
    }

    // "Throws IllegalStateException if no change can be undone"
    private static void noChange() {
        Refusal.check("undo", Check.STATE, SheepdogTrial::undo, Stage.NEW);
        SheepdogTrial trial = new SheepdogTrial();
        trial.setTolerance(6);
        Check.equal("undo of the only change", 0, trial.undo());
        Check.refused("undo without changes", Check.STATE, trial::undo);
        Check.equal("a refused undo changes nothing", 5, trial.tolerance());
        Check.refused("a refused change", Check.ARGUMENT, () -> trial.setTolerance(0));
        Check.refused("undo after a refused change", Check.STATE, trial::undo);
    }

    // "The 8 latest changes can be undone."
    private static void eightLatestChanges() {
        for (int changes = 1; changes <= 18; changes++) {
            SheepdogTrial trial = new SheepdogTrial();
            for (int change = 1; change <= changes; change++) {
                trial.setTolerance(change + 1);
            }
            int possible = Math.min(changes, 8);
            for (int left = possible - 1; left >= 0; left--) {
                Check.equal("undo, " + changes + " changes", left, trial.undo());
                int stays = changes - possible + left;
                Check.equal("tolerance with " + stays, stays == 0 ? 5 : stays + 1, trial.tolerance());
            }
            Check.refused("no more of " + changes, Check.STATE, trial::undo);
            int first = changes - possible;
            Check.equal("tolerance after the refusal", first == 0 ? 5 : first + 1, trial.tolerance());
        }
    }

    // "A change is a successful call of setStart, addLeg, addGate,
    // setTolerance, setTimeLimit, startRun, walk, fault, retire or execute.":
    // each kind as the latest change, as the eighth and as the ninth.
    private static void everyKindOfChange() {
        for (int changes = 1; changes <= CHANGES.length; changes++) {
            for (int undone = 1; undone <= Math.min(changes, 8); undone++) {
                SheepdogTrial trial = afterChanges(changes);
                for (int i = 0; i < undone; i++) {
                    Check.equal("undo " + i + " of " + changes, Math.min(changes, 8) - 1 - i, trial.undo());
                }
                SheepdogTrial before = afterChanges(changes - undone);
                String name = changes + " changes, " + undone + " undone";
                Check.equal(name, Portrait.answers(before), Portrait.answers(trial));
                Check.equal(name + ": next run", Portrait.nextRun(before), Portrait.nextRun(trial));
            }
        }
    }

    private static SheepdogTrial afterChanges(int count) {
        SheepdogTrial trial = new SheepdogTrial();
        for (int change = 0; change < count; change++) {
            int number = change;
            Check.isTrue("change " + number, Check.outcome(() -> CHANGES[number].on(trial)) instanceof Integer);
        }
        return trial;
    }

    // A successful call is a change even if everything is as before.
    private static void changesThatChangeNothing() {
        SheepdogTrial trial = new SheepdogTrial();
        trial.addLeg(50, 50, 1);
        trial.setStart(0, 0);
        Check.equal("undo of the same start", 1, trial.undo());
        trial.setTolerance(5);
        Check.equal("undo of the same tolerance", 1, trial.undo());
        trial.setTimeLimit(600);
        Check.equal("undo of the same limit", 1, trial.undo());
        Check.equal("the same by a program", 2, Check.execute(trial, "width 5;limit 600"));
        Check.equal("undo of a program", 1, trial.undo());
        trial.startRun();
        trial.fault(9);
        Check.equal("a fault without points", 0, trial.fault(9));
        Check.equal("undo of a fault without points", 3, trial.undo());
        Check.equal("the points are still lost", 0, trial.score(0));
        Check.equal("retiring without points", 0, trial.retire());
        Check.equal("undo of retiring without points", 3, trial.undo());
        Check.isTrue("the run goes on again", trial.isRunning());
    }

    // The ninth change before the latest stays.
    private static void moreThanEightChanges() {
        for (int changes = 9; changes <= CHANGES.length; changes++) {
            SheepdogTrial trial = afterChanges(changes);
            for (int left = 7; left >= 0; left--) {
                Check.equal("undo with " + changes + " changes", left, trial.undo());
            }
            Check.refused("a ninth undo of " + changes, Check.STATE, trial::undo);
            Check.equal("what stays of " + changes, Portrait.answers(afterChanges(changes - 8)),
                    Portrait.answers(trial));
        }
    }

    // "Undoes the latest change that was not undone."
    private static void changesAfterUndo() {
        SheepdogTrial trial = new SheepdogTrial();
        for (int tolerance = 6; tolerance <= 15; tolerance++) {
            trial.setTolerance(tolerance);
        }
        Check.equal("undo of 15", 7, trial.undo());
        Check.equal("undo of 14", 6, trial.undo());
        trial.setTolerance(20);
        Check.equal("undo of 20", 6, trial.undo());
        Check.equal("as before 20", 13, trial.tolerance());
        trial.setTolerance(19);
        trial.setTolerance(18);
        trial.setTolerance(17);
        Check.equal("undo of 17", 7, trial.undo());
        int[] due = {19, 13, 12, 11, 10, 9, 8};
        for (int i = 0; i < due.length; i++) {
            Check.equal("undo after undo", 6 - i, trial.undo());
            Check.equal("tolerance after undo", due[i], trial.tolerance());
        }
        Check.refused("no more", Check.STATE, trial::undo);
    }

    // Changes and undos in turns, against a list of the values before.
    private static void aroundTheRing() {
        for (int pattern = 0; pattern < 64; pattern++) {
            SheepdogTrial trial = new SheepdogTrial();
            List<Integer> before = new ArrayList<>();
            int now = 5;
            for (int call = 0; call < 60; call++) {
                boolean undoes = (pattern >> call % 6 & 1) == 1 && call % 12 < 9;
                if (!undoes) {
                    before.add(now);
                    now = now % 20 + 1;
                    trial.setTolerance(now);
                } else if (before.isEmpty()) {
                    Check.refused("undo in turns", Check.STATE, trial::undo);
                } else {
                    now = before.remove(before.size() - 1);
                    Check.equal("undo in turns", before.size(), trial.undo());
                }
                if (before.size() > 8) {
                    before.remove(0);
                }
                Check.equal("tolerance in turns", now, trial.tolerance());
            }
        }
    }

    // "An object is used for at most 512 calls after it has been made": the
    // last ones answer as the first ones do.
    private static void lastOf512Calls() {
        SheepdogTrial trial = new SheepdogTrial();
        for (int call = 1; call <= 502; call++) {
            trial.setTolerance(call % 20 + 1);
        }
        for (int left = 7; left >= 0; left--) {
            Check.equal("undo after 502 changes", left, trial.undo());
        }
        Check.refused("call 511", Check.STATE, trial::undo);
        Check.equal("call 512", 494 % 20 + 1, trial.tolerance());
        SheepdogTrial programs = new SheepdogTrial();
        for (int call = 0; call < 512; call += 8) {
            Check.equal("program after " + call, 1, Check.execute(programs, "width " + (call / 8 % 9 + 1)));
        }
    }

    // All other calls, and those that are refused, are no change.
    private static void callsThatAreNoChange() {
        Refusal.Call[] calls = {SheepdogTrial::save, SheepdogTrial::writeRanking, t -> t.writeRun(0), t -> t.type('e'),
            t -> t.lossOfStep(9, 9, 9), t -> t.gatesPassedTo(9, 9), t -> t.isOffLine(9, 9), SheepdogTrial::isConsistent,
            t -> t.runAt(0), t -> t.rankOf(0), SheepdogTrial::meanScore, t -> Check.outcome(() -> t.walk(100, 0, 1)),
            t -> Check.outcome(t::startRun), t -> Check.outcome(t::execute), t -> Check.execute(t, "run"),
            t -> Check.outcome(() -> t.addLeg(1, 1, 1)), t -> Check.outcome(() -> t.charAt(-1))};
        for (Stage stage : new Stage[] {Stage.RUNNING, Stage.FULL_RUNNING}) {
            for (int call = 0; call < calls.length; call++) {
                SheepdogTrial trial = stage.makeWithText("");
                Refusal.Call made = calls[call];
                Check.outcome(() -> made.on(trial));
                Check.equal("changes after call " + call + " on " + stage, stage.portrait(Probe.UNDONE_CHANGES),
                        Portrait.undoneChanges(trial));
            }
        }
    }

    // "Throws IllegalStateException if no state was saved"
    private static void nothingSaved() {
        Refusal.check("restore", Check.STATE, SheepdogTrial::restore, Stage.NEW);
        SheepdogTrial trial = afterChanges(10);
        Check.refused("restore after changes", Check.STATE, trial::restore);
        Check.equal("undo after a refused restore", 7, trial.undo());
        Check.refused("restore after undo", Check.STATE, trial::restore);
        trial.save();
        Check.equal("restore after save", 1, trial.restore());
        SheepdogTrial empty = new SheepdogTrial();
        empty.save();
        for (int changes = 0; changes < 3; changes++) {
            empty.setStart(9, 9);
            empty.addLeg(9, 9, 9);
            empty.addGate(0, 1, 1, 2, 2);
            empty.startRun();
            Check.equal("restore of a new trial", 0, empty.restore());
            Check.equal("as new", Stage.NEW.portrait(Probe.ANSWERS), Portrait.answers(empty));
        }
    }

    // "Saves the state in place of the state that was saved before."
    private static void savedInPlace() {
        for (int first = 0; first <= CHANGES.length; first += 3) {
            for (int second = first; second <= CHANGES.length; second += 5) {
                SheepdogTrial trial = afterChanges(first);
                trial.save();
                for (int change = first; change < second; change++) {
                    int number = change;
                    Check.outcome(() -> CHANGES[number].on(trial));
                }
                int due = trial.save();
                Check.outcome(trial::undo);
                Check.equal("restore of the second", due, trial.restore());
                Check.equal("saved after " + first + ", then " + second, Portrait.answers(afterChanges(second)),
                        Portrait.answers(trial));
            }
        }
    }

    // "Restores the saved state, which stays saved."
    private static void savedStateStaysSaved() {
        for (int saved = 0; saved <= CHANGES.length; saved++) {
            SheepdogTrial trial = afterChanges(saved);
            int runs = trial.save();
            String due = Portrait.answers(afterChanges(saved));
            for (int times = 0; times < 2; times++) {
                for (int change = saved; change < Math.min(saved + 4, CHANGES.length); change++) {
                    int number = change;
                    Check.outcome(() -> CHANGES[number].on(trial));
                }
                Check.equal("restore", runs, trial.restore());
                Check.equal("restored after " + saved + " changes", Portrait.brief(afterChanges(saved)),
                        Portrait.brief(trial));
            }
            Check.equal("restored after " + saved + " changes", due, Portrait.answers(trial));
        }
    }

    // "Afterwards no change can be undone."
    private static void noUndoAfterRestore() {
        for (Stage stage : Stage.values()) {
            SheepdogTrial trial = stage.make();
            trial.save();
            trial.restore();
            Check.refused("undo after restore on " + stage, Check.STATE, trial::undo);
            Check.equal("the state on " + stage, stage.portrait(Probe.ANSWERS), Portrait.answers(trial));
        }
        SheepdogTrial trial = new SheepdogTrial();
        trial.save();
        for (int tolerance = 1; tolerance <= 12; tolerance++) {
            trial.setTolerance(tolerance);
        }
        trial.restore();
        for (int changes = 1; changes <= 9; changes++) {
            trial.setTolerance(changes + 1);
        }
        for (int left = 7; left >= 0; left--) {
            Check.equal("undo of changes after restore", left, trial.undo());
        }
        Check.equal("the first change after restore stays", 2, trial.tolerance());
        Check.refused("not beyond eight", Check.STATE, trial::undo);
        trial.restore();
        trial.setTolerance(9);
        Check.equal("the one change after restore", 0, trial.undo());
        Check.equal("as restored", 5, trial.tolerance());
        Check.refused("not beyond restore", Check.STATE, trial::undo);
    }

    // "Returns the number of runs.", from 0 to 8, with one going on or not.
    private static void saveAnswersTheRuns() {
        SheepdogTrial trial = Check.twoLegs();
        for (int runs = 0; runs < 8; runs++) {
            Check.equal("save", runs, trial.save());
            Check.equal("restore", runs, trial.restore());
            trial.startRun();
            Check.equal("save in a run", runs + 1, trial.save());
            trial.retire();
            Check.equal("restore in a run", runs + 1, trial.restore());
            Check.isTrue("it goes on", trial.isRunning());
            trial.retire();
        }
        Check.equal("save with 8 runs", 8, trial.save());
        Check.equal("restore with 8 runs", 8, trial.restore());
        Check.refused("a ninth run after restore", Check.STATE, trial::startRun);
    }

    // "everything except the program buffer, the error position, the failed
    // command and the output line"
    private static void outsideOfTheState() {
        for (Stage stage : new Stage[] {Stage.COURSE, Stage.RUNNING, Stage.FULL_RUNNING, Stage.FULL_ENDED}) {
            for (Probe probe : new Probe[] {Probe.LINE, Probe.RECORDS, Probe.ROOM_IN_BUFFER}) {
                SheepdogTrial undone = stage.make();
                undone.undo();
                Check.equal("undo on " + stage + " leaves " + probe, stage.portrait(probe), probe.of(undone));
                SheepdogTrial restored = stage.make();
                restored.restore();
                Check.equal("restore on " + stage + " leaves " + probe, stage.portrait(probe), probe.of(restored));
            }
        }
    }
}
