import java.util.List;
import java.util.Random;
import java.util.concurrent.Callable;

/** Makes the same calls on the class and on the model; the seeds are fixed, so every run makes the same calls. */
final class ModelTest {
    private static final int OBJECTS = 300;
    private static final int CALLS = 300;
    private static final int COURSE_CALLS = 24;

    private final Random random;
    private final String name;
    private final int spread;
    private SheepdogTrial trial = new SheepdogTrial();
    private Model model = new Model();

    private ModelTest(int seed) {
        random = new Random(seed);
        name = "seed " + seed;
        // Small grounds make the segments touch, overlap and shrink to points.
        int[] spreads = {100, 4, 12, 30};
        spread = spreads[seed % 4];
    }

    static void run() {
        for (int seed = 0; seed < OBJECTS; seed++) {
            ModelTest test = new ModelTest(seed);
            for (int call = 0; call < CALLS && Check.failures < 20; call++) {
                test.makeCall(call);
                test.compareAnswers(call);
            }
        }
    }

    private void compare(String call, Callable<?> due, Callable<?> got) {
        Check.equal(name + ": " + call, Check.outcome(due), Check.outcome(got));
    }

    private int number(int from, int to) {
        return from + random.nextInt(to - from + 1);
    }

    private int coordinate() {
        return random.nextInt(80) == 0 ? (random.nextBoolean() ? -1 : 100) : random.nextInt(spread);
    }

    /** Answers a point, often near the legs and gates. */
    private int[] place() {
        List<int[]> places = model.placesOfInterest();
        if (random.nextInt(4) == 0) {
            return new int[] {coordinate(), coordinate()};
        }
        int[] near = places.get(random.nextInt(places.size()));
        int most = random.nextInt(3) == 0 ? 0 : random.nextInt(6);
        return new int[] {near[0] + number(-most, most), near[1] + number(-most, most)};
    }

    private void makeCall(int call) {
        int kind = random.nextInt(100);
        if (call < COURSE_CALLS) {
            makeCourse(call < 8 ? kind % 50 : kind);
        } else if (kind < 10) {
            compare("startRun", model::startRun, trial::startRun);
        } else if (kind < 55) {
            walk();
        } else if (kind < 60) {
            int points = number(0, 10);
            compare("fault " + points, () -> model.fault(points), () -> trial.fault(points));
        } else if (kind < 61) {
            compare("retire", model::retire, trial::retire);
        } else if (kind < 70) {
            compare("undo", model::undo, trial::undo);
        } else if (kind < 73) {
            compare("save", model::save, trial::save);
        } else if (kind < 75) {
            compare("restore", model::restore, trial::restore);
        } else if (kind < 90) {
            execute();
        } else {
            makeCourse(random.nextInt(100));
        }
    }

    private void makeCourse(int kind) {
        int[] a = place();
        int[] b = place();
        if (kind < 15) {
            compare("setStart", () -> model.setStart(a[0], a[1]), () -> trial.setStart(a[0], a[1]));
        } else if (kind < 50) {
            int points = number(0, 31);
            compare("addLeg", () -> model.addLeg(a[0], a[1], points), () -> trial.addLeg(a[0], a[1], points));
        } else if (kind < 85) {
            int leg = random.nextInt(10) == 0 ? number(-1, 6) : random.nextInt(Math.max(1, model.legs()));
            compare("addGate", () -> model.addGate(leg, a[0], a[1], b[0], b[1]),
                    () -> trial.addGate(leg, a[0], a[1], b[0], b[1]));
        } else if (kind < 93) {
            int tolerance = number(0, random.nextBoolean() ? 21 : 4);
            compare("setTolerance", () -> model.setTolerance(tolerance), () -> trial.setTolerance(tolerance));
        } else {
            int seconds = number(0, 3) == 0 ? number(0, 1) + 999 : number(59, 150);
            compare("setTimeLimit", () -> model.setTimeLimit(seconds), () -> trial.setTimeLimit(seconds));
        }
    }

    private void walk() {
        int[] to = place();
        int seconds = random.nextInt(40) == 0 ? number(0, 1) * 1000 : number(1, 25);
        compare("lossOfStep", () -> model.lossOfStep(to[0], to[1], seconds),
                () -> trial.lossOfStep(to[0], to[1], seconds));
        compare("walk", () -> model.walk(to[0], to[1], seconds), () -> trial.walk(to[0], to[1], seconds));
    }

    private void execute() {
        StringBuilder text = new StringBuilder();
        int commands = number(1, 6);
        for (int i = 0; i < commands; i++) {
            text.append(i == 0 ? "" : ";").append(command());
        }
        if (random.nextInt(3) == 0) {
            spoil(text);
        }
        for (char c : text.toString().toCharArray()) {
            compare("type", () -> model.type(c), () -> trial.type(c));
        }
        compare("execute '" + text + "'", model::execute, trial::execute);
    }

    private String command() {
        int[] p = place();
        int[] q = place();
        String point = Math.abs(p[0]) + "," + Math.abs(p[1]);
        int kind = random.nextInt(model.runs() == 0 ? 10 : 30);
        switch (kind) {
            case 0:
                return "start " + point;
            case 1:
                return "leg " + point + "=" + number(0, 31);
            case 2:
                return "gate " + number(0, 3) + " " + point + "-" + Math.abs(q[0]) + "," + Math.abs(q[1]);
            case 3:
                return "limit " + number(59, 999);
            case 4:
                return "width " + number(0, 21);
            case 5:
            case 10:
            case 11:
                return "run";
            case 6:
            case 12:
                return "fault " + number(0, 9);
            case 7:
                return "retire";
            default:
                return "walk " + point + "+" + number(1, 30);
        }
    }

    private void spoil(StringBuilder text) {
        String signs = "0123456789;,=-+ startlegawidhunkfmx#?/:";
        int at = random.nextInt(text.length());
        char sign = signs.charAt(random.nextInt(signs.length()));
        switch (random.nextInt(4)) {
            case 0:
                text.setLength(at);
                break;
            case 1:
                text.setCharAt(at, sign);
                break;
            case 2:
                text.insert(at, sign);
                break;
            default:
                text.deleteCharAt(at);
                break;
        }
    }

    private void compareAnswers(int call) {
        compare("isRunning", model::isRunning, trial::isRunning);
        compare("runs", model::runs, trial::runs);
        compare("presentLeg", model::presentLeg, trial::presentLeg);
        compare("flockX", model::flockX, trial::flockX);
        compare("flockY", model::flockY, trial::flockY);
        compare("nextGate", model::nextGate, trial::nextGate);
        compare("errorPosition", model::errorPosition, trial::errorPosition);
        compare("failedCommand", model::failedCommand, trial::failedCommand);
        compare("tolerance", model::tolerance, trial::tolerance);
        compare("timeLimit", model::timeLimit, trial::timeLimit);
        int[] to = place();
        compare("gatesPassedTo", () -> model.gatesPassedTo(to[0], to[1]), () -> trial.gatesPassedTo(to[0], to[1]));
        compare("isOffLine", () -> model.isOffLine(to[0], to[1]), () -> trial.isOffLine(to[0], to[1]));
        compareLine();
        if (call % 5 == 0) {
            compareCourse();
            for (int run = -1; run <= model.runs(); run++) {
                compareRun(run);
            }
        }
    }

    private void compareLine() {
        int kind = random.nextInt(3);
        int run = number(-1, model.runs());
        if (kind == 0) {
            compare("writeRun", () -> model.writeRun(run), () -> trial.writeRun(run));
        } else if (kind == 1) {
            compare("writeRanking", model::writeRanking, trial::writeRanking);
        }
        Check.equal(name + ": the line", model.line(), Check.line(trial));
    }

    private void compareCourse() {
        compare("legs", model::legs, trial::legs);
        compare("gates", model::gates, trial::gates);
        compare("totalPoints", model::totalPoints, trial::totalPoints);
        compare("meanScore", model::meanScore, trial::meanScore);
        Check.isTrue(name + ": isConsistent", trial.isConsistent());
        for (int i = -1; i <= 6; i++) {
            int n = i;
            compare("legPoints", () -> model.legPoints(n), () -> trial.legPoints(n));
            compare("bestOn", () -> model.bestOn(n), () -> trial.bestOn(n));
            compare("legOf", () -> model.legOf(n), () -> trial.legOf(n));
            compare("isOnLine", () -> model.isOnLine(n), () -> trial.isOnLine(n));
            compare("passRate", () -> model.passRate(n), () -> trial.passRate(n));
        }
    }

    private void compareRun(int run) {
        compare("isComplete", () -> model.isComplete(run), () -> trial.isComplete(run));
        compare("time", () -> model.time(run), () -> trial.time(run));
        compare("score", () -> model.score(run), () -> trial.score(run));
        compare("scoreByLosses", () -> model.score(run), () -> trial.scoreByLosses(run));
        compare("lineLoss", () -> model.loss(run, 0), () -> trial.lineLoss(run));
        compare("gateLoss", () -> model.loss(run, 1), () -> trial.gateLoss(run));
        compare("faultLoss", () -> model.loss(run, 2), () -> trial.faultLoss(run));
        compare("timeLoss", () -> model.loss(run, 3), () -> trial.timeLoss(run));
        compare("runAt", () -> model.runAt(run), () -> trial.runAt(run));
        compare("rankOf", () -> model.rankOf(run), () -> trial.rankOf(run));
        for (int i = -1; i <= 6; i++) {
            int n = i;
            compare("hasPassed", () -> model.hasPassed(run, n), () -> trial.hasPassed(run, n));
            compare("pointsOn", () -> model.pointsOn(run, n), () -> trial.pointsOn(run, n));
        }
    }
}
