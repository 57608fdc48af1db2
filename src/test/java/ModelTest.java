import java.util.List;
import java.util.Random;
import java.util.concurrent.Callable;

/** Makes the same calls on the class and on the model; the seeds are fixed, so every run makes the same calls. */
final class ModelTest {
    private static final int OBJECTS = 4000;

    /** An object is used for at most 512 calls; the last ones look at one run and at the ranking. */
    private static final int CALLS_OF_A_LIFE = 512;
    private static final int CALLS_AT_THE_END = 100;
    private static final int QUESTIONS_AFTER_A_CALL = 4;

    private final Random random;
    private final String name;
    private final int spread;
    private final int changesOfCourse;
    private final SheepdogTrial trial = new SheepdogTrial();
    private final Model model = new Model();
    private int callsOfTrial = 0;

    private ModelTest(int seed) {
        random = new Random(seed);
        name = "seed " + seed;
        // Small grounds make the segments touch, overlap and shrink to points.
        int[] spreads = {100, 4, 12, 30};
        spread = spreads[seed % 4];
        changesOfCourse = number(4, 20);
    }

    static void run() {
        for (int seed = 0; seed < OBJECTS && Check.failures < 20; seed++) {
            new ModelTest(seed).live();
        }
    }

    // A step makes at most some 60 calls, if it types and executes a program.
    private void live() {
        int step = 0;
        while (callsOfTrial < CALLS_OF_A_LIFE - CALLS_AT_THE_END - 70) {
            makeCall(step);
            for (int question = 0; question < QUESTIONS_AFTER_A_CALL; question++) {
                ask(random.nextInt(32));
            }
            step++;
        }
        compareRun(number(0, Math.max(0, model.runs() - 1)));
        compare("writeRanking", model::writeRanking, trial::writeRanking);
        compareLine();
        Check.isTrue(name + ": few enough calls", callsOfTrial <= CALLS_OF_A_LIFE);
    }

    private void compare(String call, Callable<?> due, Callable<?> got) {
        callsOfTrial++;
        Check.equal(name + ": " + call, Check.outcome(due), Check.outcome(got));
    }

    private void compareLine() {
        String line = Check.line(trial);
        callsOfTrial += line.length() + 1;
        Check.equal(name + ": the line", model.line(), line);
    }

    private int number(int from, int to) {
        return from + random.nextInt(to - from + 1);
    }

    private int coordinate() {
        return random.nextInt(80) == 0 ? (random.nextBoolean() ? -1 : 100) : random.nextInt(spread);
    }

    /** Answers a point, often near the legs and gates. */
    private int[] place() {
        List<int[]> places = model.placesOfInterest();
        if (random.nextInt(4) == 0) {
            return new int[] {coordinate(), coordinate()};
        }
        int[] near = places.get(random.nextInt(places.size()));
        int most = random.nextInt(3) == 0 ? 0 : random.nextInt(6);
        return new int[] {near[0] + number(-most, most), near[1] + number(-most, most)};
    }

    private void makeCall(int step) {
        int kind = random.nextInt(100);
        if (step < changesOfCourse) {
            makeCourse(step < 6 ? kind % 50 : kind);
        } else if (kind < 10) {
            compare("startRun", model::startRun, trial::startRun);
        } else if (kind < 55) {
            walk();
        } else if (kind < 60) {
            int points = number(0, 10);
            compare("fault " + points, () -> model.fault(points), () -> trial.fault(points));
        } else if (kind < 61) {
            compare("retire", model::retire, trial::retire);
        } else if (kind < 70) {
            compare("undo", model::undo, trial::undo);
        } else if (kind < 73) {
            compare("save", model::save, trial::save);
        } else if (kind < 75) {
            compare("restore", model::restore, trial::restore);
        } else if (kind < 90) {
            execute();
        } else {
            makeCourse(random.nextInt(100));
        }
    }

    private void makeCourse(int kind) {
        int[] a = place();
        int[] b = place();
        if (kind < 15) {
            compare("setStart", () -> model.setStart(a[0], a[1]), () -> trial.setStart(a[0], a[1]));
        } else if (kind < 50) {
            int points = number(0, 31);
            compare("addLeg", () -> model.addLeg(a[0], a[1], points), () -> trial.addLeg(a[0], a[1], points));
        } else if (kind < 85) {
            int leg = random.nextInt(10) == 0 ? number(-1, 6) : random.nextInt(Math.max(1, model.legs()));
            compare("addGate", () -> model.addGate(leg, a[0], a[1], b[0], b[1]),
                    () -> trial.addGate(leg, a[0], a[1], b[0], b[1]));
        } else if (kind < 93) {
            int tolerance = number(0, random.nextBoolean() ? 21 : 4);
            compare("setTolerance", () -> model.setTolerance(tolerance), () -> trial.setTolerance(tolerance));
        } else {
            int seconds = number(0, 3) == 0 ? number(0, 1) + 999 : number(59, 150);
            compare("setTimeLimit", () -> model.setTimeLimit(seconds), () -> trial.setTimeLimit(seconds));
        }
    }

    private void walk() {
        int[] to = place();
        int seconds = random.nextInt(40) == 0 ? number(0, 1) * 1000 : number(1, 25);
        compare("lossOfStep", () -> model.lossOfStep(to[0], to[1], seconds),
                () -> trial.lossOfStep(to[0], to[1], seconds));
        compare("walk", () -> model.walk(to[0], to[1], seconds), () -> trial.walk(to[0], to[1], seconds));
    }

    private void execute() {
        StringBuilder text = new StringBuilder();
        int commands = number(1, 6);
        for (int i = 0; i < commands; i++) {
            text.append(i == 0 ? "" : ";").append(command());
        }
        if (random.nextInt(3) == 0) {
            spoil(text);
        }
        for (char c : text.toString().toCharArray()) {
            compare("type", () -> model.type(c), () -> trial.type(c));
        }
        compare("execute '" + text + "'", model::execute, trial::execute);
    }

    private String command() {
        int[] p = place();
        int[] q = place();
        String point = Math.abs(p[0]) + "," + Math.abs(p[1]);
        int kind = random.nextInt(model.runs() == 0 ? 10 : 30);
        switch (kind) {
            case 0:
                return "start " + point;
            case 1:
                return "leg " + point + "=" + number(0, 31);
            case 2:
                return "gate " + number(0, 3) + " " + point + "-" + Math.abs(q[0]) + "," + Math.abs(q[1]);
            case 3:
                return "limit " + number(59, 999);
            case 4:
                return "width " + number(0, 21);
            case 5:
            case 10:
            case 11:
                return "run";
            case 6:
            case 12:
                return "fault " + number(0, 9);
            case 7:
                return "retire";
            default:
                return "walk " + point + "+" + number(1, 30);
        }
    }

    private void spoil(StringBuilder text) {
        String signs = "0123456789;,=-+ startlegawidhunkfmx#?/:";
        int at = random.nextInt(text.length());
        char sign = signs.charAt(random.nextInt(signs.length()));
        switch (random.nextInt(4)) {
            case 0:
                text.setLength(at);
                break;
            case 1:
                text.setCharAt(at, sign);
                break;
            case 2:
                text.insert(at, sign);
                break;
            default:
                text.deleteCharAt(at);
                break;
        }
    }

    private void ask(int kind) {
        if (kind < 8) {
            askOfThePresentRun(kind);
        } else if (kind < 16) {
            askOfTheCourse(kind, number(-1, model.legs()), number(-1, model.gates()));
        } else if (kind < 28) {
            askOfARun(kind, number(-1, model.runs()));
        } else {
            askOfTheLine(kind, number(-1, model.runs()));
        }
    }

    private void askOfThePresentRun(int kind) {
        int[] to = place();
        switch (kind) {
            case 0 -> compare("isRunning", model::isRunning, trial::isRunning);
            case 1 -> compare("presentLeg", model::presentLeg, trial::presentLeg);
            case 2 -> compare("flockX", model::flockX, trial::flockX);
            case 3 -> compare("flockY", model::flockY, trial::flockY);
            case 4 -> compare("nextGate", model::nextGate, trial::nextGate);
            case 5 -> compare("isOffLine", () -> model.isOffLine(to[0], to[1]), () -> trial.isOffLine(to[0], to[1]));
            default -> compare("gatesPassedTo", () -> model.gatesPassedTo(to[0], to[1]),
                    () -> trial.gatesPassedTo(to[0], to[1]));
        }
    }

    private void askOfTheCourse(int kind, int leg, int gate) {
        switch (kind) {
            case 8 -> compare("legs", model::legs, trial::legs);
            case 9 -> compare("gates", model::gates, trial::gates);
            case 10 -> compare("totalPoints", model::totalPoints, trial::totalPoints);
            case 11 -> compare("tolerance", model::tolerance, trial::tolerance);
            case 12 -> compare("timeLimit", model::timeLimit, trial::timeLimit);
            case 13 -> compare("legPoints", () -> model.legPoints(leg), () -> trial.legPoints(leg));
            case 14 -> compare("legOf", () -> model.legOf(gate), () -> trial.legOf(gate));
            default -> compare("isOnLine", () -> model.isOnLine(gate), () -> trial.isOnLine(gate));
        }
    }

    private void askOfARun(int kind, int run) {
        int leg = number(-1, model.legs());
        int gate = number(-1, model.gates());
        switch (kind) {
            case 16 -> compare("runs", model::runs, trial::runs);
            case 17 -> compare("runAt", () -> model.runAt(run), () -> trial.runAt(run));
            case 18 -> compare("rankOf", () -> model.rankOf(run), () -> trial.rankOf(run));
            case 19 -> compare("bestOn", () -> model.bestOn(leg), () -> trial.bestOn(leg));
            case 20 -> compare("meanScore", model::meanScore, trial::meanScore);
            case 21 -> compare("passRate", () -> model.passRate(gate), () -> trial.passRate(gate));
            case 22 -> compare("isConsistent", () -> true, trial::isConsistent);
            case 23 -> compare("hasPassed", () -> model.hasPassed(run, gate), () -> trial.hasPassed(run, gate));
            case 24 -> compare("pointsOn", () -> model.pointsOn(run, leg), () -> trial.pointsOn(run, leg));
            case 25 -> compare("score", () -> model.score(run), () -> trial.score(run));
            case 26 -> compare("scoreByLosses", () -> model.score(run), () -> trial.scoreByLosses(run));
            default -> compare("time", () -> model.time(run), () -> trial.time(run));
        }
    }

    private void askOfTheLine(int kind, int run) {
        switch (kind) {
            case 28 -> compare("writeRun", () -> model.writeRun(run), () -> trial.writeRun(run));
            case 29 -> compare("writeRanking", model::writeRanking, trial::writeRanking);
            case 30 -> compare("errorPosition", model::errorPosition, trial::errorPosition);
            default -> compare("failedCommand", model::failedCommand, trial::failedCommand);
        }
    }

    private void compareRun(int run) {
        compare("isComplete", () -> model.isComplete(run), () -> trial.isComplete(run));
        compare("time", () -> model.time(run), () -> trial.time(run));
        compare("score", () -> model.score(run), () -> trial.score(run));
        compare("scoreByLosses", () -> model.score(run), () -> trial.scoreByLosses(run));
        compare("lineLoss", () -> model.loss(run, 0), () -> trial.lineLoss(run));
        compare("gateLoss", () -> model.loss(run, 1), () -> trial.gateLoss(run));
        compare("faultLoss", () -> model.loss(run, 2), () -> trial.faultLoss(run));
        compare("timeLoss", () -> model.loss(run, 3), () -> trial.timeLoss(run));
        compare("rankOf", () -> model.rankOf(run), () -> trial.rankOf(run));
        for (int i = -1; i <= 6; i++) {
            int n = i;
            compare("hasPassed", () -> model.hasPassed(run, n), () -> trial.hasPassed(run, n));
            compare("pointsOn", () -> model.pointsOn(run, n), () -> trial.pointsOn(run, n));
        }
        compare("writeRun", () -> model.writeRun(run), () -> trial.writeRun(run));
        compareLine();
    }
}
