import java.util.ArrayDeque;
import java.util.ArrayList;
import java.util.Comparator;
import java.util.Deque;
import java.util.List;
import java.util.NoSuchElementException;
import java.util.regex.Matcher;
import java.util.regex.Pattern;

/**
 * The document written a second time, in other ways than the class: states are copied anew, geometry is done with
 * fractions, programs are read by regular expressions, rankings are sorted by comparators.
 */
final class Model {
    private static final String NUMBER = "(\\d{1,3})";
    private static final String[] COMMANDS = {
        "start N,N", "leg N,N=N", "gate (\\d) N,N-N,N", "limit N", "width N", "run", "walk N,N\\+N", "fault (\\d)",
        "retire"};
    private static final Pattern PROGRAM;

    static {
        String command = "(?:" + String.join("|", COMMANDS).replace("N", "\\d{1,3}") + ")";
        PROGRAM = Pattern.compile(command + "(?:;" + command + ")*");
    }

    private record Leg(int x, int y, int points) {
    }

    private record Gate(int leg, int x1, int y1, int x2, int y2) {
    }

    private static final class Result {
        int number;
        int time;
        boolean complete;
        List<Integer> points = new ArrayList<>();
        List<Integer> passed = new ArrayList<>();
        int[] losses = new int[4];

        Result copy() {
            Result copy = new Result();
            copy.number = number;
            copy.time = time;
            copy.complete = complete;
            copy.points = new ArrayList<>(points);
            copy.passed = new ArrayList<>(passed);
            copy.losses = losses.clone();
            return copy;
        }

        int lose(int leg, int wanted, int loss) {
            int had = points.get(leg);
            points.set(leg, Math.max(0, had - wanted));
            losses[loss] += had - points.get(leg);
            return had - points.get(leg);
        }

        int score() {
            return points.stream().mapToInt(Integer::intValue).sum();
        }
    }

    private static final class World {
        int x;
        int y;
        int tolerance = 5;
        int limit = 600;
        List<Leg> legs = new ArrayList<>();
        List<Gate> gates = new ArrayList<>();
        List<Result> results = new ArrayList<>();
        boolean running;
        int leg;
        int flockX;
        int flockY;

        World copy() {
            World copy = new World();
            copy.x = x;
            copy.y = y;
            copy.tolerance = tolerance;
            copy.limit = limit;
            copy.legs = new ArrayList<>(legs);
            copy.gates = new ArrayList<>(gates);
            results.forEach(r -> copy.results.add(r.copy()));
            copy.running = running;
            copy.leg = leg;
            copy.flockX = flockX;
            copy.flockY = flockY;
            return copy;
        }

        Result last() {
            return results.get(results.size() - 1);
        }
    }

    private World world = new World();
    private World saved = null;
    private Deque<World> past = new ArrayDeque<>();
    private String line = "";
    private String buffer = "";
    private Integer errorPosition = null;
    private Integer failedCommand = null;

    private interface Change {
        int make();
    }

    // Makes a change on the world itself and takes the copy back if it throws.
    private int change(Change change) {
        World before = world.copy();
        try {
            int answer = change.make();
            past.addLast(before);
            if (past.size() > 8) {
                past.removeFirst();
            }
            return answer;
        } catch (RuntimeException e) {
            world = before;
            throw e;
        }
    }

    private static void argument(boolean good) {
        if (!good) {
            throw new IllegalArgumentException();
        }
    }

    private static void state(boolean good) {
        if (!good) {
            throw new IllegalStateException();
        }
    }

    private static void index(int index, int size) {
        if (index < 0 || index >= size) {
            throw new IndexOutOfBoundsException();
        }
    }

    private static boolean point(int... coordinates) {
        for (int c : coordinates) {
            if (c < 0 || c > 99) {
                return false;
            }
        }
        return true;
    }

    // ---- changes

    int setStart(int x, int y) {
        return change(() -> start(x, y));
    }

    private int start(int x, int y) {
        argument(point(x, y));
        state(world.results.isEmpty());
        world.x = x;
        world.y = y;
        return world.legs.size();
    }

    int addLeg(int x, int y, int points) {
        return change(() -> leg(x, y, points));
    }

    private int leg(int x, int y, int points) {
        argument(point(x, y) && points >= 1 && points <= 30);
        state(world.legs.size() < 6 && world.results.isEmpty());
        world.legs.add(new Leg(x, y, points));
        return world.legs.size() - 1;
    }

    int addGate(int leg, int x1, int y1, int x2, int y2) {
        return change(() -> gate(leg, x1, y1, x2, y2));
    }

    private int gate(int leg, int x1, int y1, int x2, int y2) {
        index(leg, world.legs.size());
        argument(point(x1, y1, x2, y2) && !(x1 == x2 && y1 == y2));
        state(world.gates.size() < 6 && world.results.isEmpty());
        world.gates.add(new Gate(leg, x1, y1, x2, y2));
        return world.gates.size() - 1;
    }

    int setTolerance(int tolerance) {
        return change(() -> width(tolerance));
    }

    private int width(int tolerance) {
        argument(tolerance >= 1 && tolerance <= 20);
        state(world.results.isEmpty());
        int previous = world.tolerance;
        world.tolerance = tolerance;
        return previous;
    }

    int setTimeLimit(int seconds) {
        return change(() -> limit(seconds));
    }

    private int limit(int seconds) {
        argument(seconds >= 60 && seconds <= 999);
        state(world.results.isEmpty());
        int previous = world.limit;
        world.limit = seconds;
        return previous;
    }

    int startRun() {
        return change(this::begin);
    }

    private int begin() {
        state(!world.legs.isEmpty() && !world.running && world.results.size() < 8);
        Result result = new Result();
        result.number = world.results.size();
        world.legs.forEach(l -> result.points.add(l.points()));
        world.results.add(result);
        world.running = true;
        world.leg = 0;
        world.flockX = world.x;
        world.flockY = world.y;
        return result.number;
    }

    int walk(int x, int y, int seconds) {
        return change(() -> step(x, y, seconds));
    }

    private int step(int x, int y, int seconds) {
        argument(point(x, y) && seconds >= 1 && seconds <= 999);
        state(world.running);
        Result result = world.last();
        result.time += seconds;
        if (result.time > world.limit) {
            return end(3);
        }
        result.passed.addAll(passable(x, y));
        world.flockX = x;
        world.flockY = y;
        int lost = isOffLine(x, y) ? result.lose(world.leg, 1, 0) : 0;
        Leg leg = world.legs.get(world.leg);
        if (Math.hypot(x - leg.x(), y - leg.y()) <= 3.000001) {
            for (Integer gate : open()) {
                lost += result.lose(world.leg, 5, 1);
            }
            world.leg++;
            if (world.leg == world.legs.size()) {
                world.running = false;
                result.complete = true;
            }
        }
        return lost;
    }

    int fault(int points) {
        return change(() -> deduct(points));
    }

    private int deduct(int points) {
        argument(points >= 1 && points <= 9);
        state(world.running);
        return world.last().lose(world.leg, points, 2);
    }

    int retire() {
        return change(this::giveUp);
    }

    private int giveUp() {
        state(world.running);
        return end(2);
    }

    private int end(int loss) {
        int lost = 0;
        for (int leg = world.leg; leg < world.legs.size(); leg++) {
            lost += world.last().lose(leg, 99, loss);
        }
        world.running = false;
        return lost;
    }

    // ---- geometry

    private List<Integer> open() {
        List<Integer> open = new ArrayList<>();
        for (int gate = 0; gate < world.gates.size(); gate++) {
            if (world.gates.get(gate).leg() == world.leg && !world.last().passed.contains(gate)) {
                open.add(gate);
            }
        }
        return open;
    }

    private List<Integer> passable(int x, int y) {
        List<Integer> passed = new ArrayList<>();
        for (int gate : open()) {
            if (!meet(world.gates.get(gate), world.flockX, world.flockY, x, y)) {
                break;
            }
            passed.add(gate);
        }
        return passed;
    }

    // Solves for the point in common: post 1 + s / d * (post 2 - post 1)
    // = from + t / d * (to - from); if they are parallel, a point in common
    // exists only if an end of one lies on the other.
    private static boolean meet(Gate gate, int x1, int y1, int x2, int y2) {
        long gateX = gate.x2() - gate.x1();
        long gateY = gate.y2() - gate.y1();
        long stepX = x2 - x1;
        long stepY = y2 - y1;
        long d = gateX * stepY - gateY * stepX;
        if (d == 0) {
            return distance(gate.x1(), gate.y1(), gate.x2(), gate.y2(), x1, y1, 0)
                    || distance(gate.x1(), gate.y1(), gate.x2(), gate.y2(), x2, y2, 0)
                    || distance(x1, y1, x2, y2, gate.x1(), gate.y1(), 0);
        }
        long s = (x1 - gate.x1()) * stepY - (y1 - gate.y1()) * stepX;
        long t = (x1 - gate.x1()) * gateY - (y1 - gate.y1()) * gateX;
        return s * d >= 0 && Math.abs(s) <= Math.abs(d) && t * d >= 0 && Math.abs(t) <= Math.abs(d);
    }

    /** Answers whether a point is at most so far from a segment, by its nearest point as a fraction. */
    private static boolean distance(long x1, long y1, long x2, long y2, long x, long y, long most) {
        long square = (x2 - x1) * (x2 - x1) + (y2 - y1) * (y2 - y1);
        long along = (x - x1) * (x2 - x1) + (y - y1) * (y2 - y1);
        long below = square == 0 ? 1 : square;
        long above = Math.max(0, Math.min(along, square));
        long awayX = x * below - (x1 * below + above * (x2 - x1));
        long awayY = y * below - (y1 * below + above * (y2 - y1));
        return awayX * awayX + awayY * awayY <= most * most * below * below;
    }

    private int beginX(int leg) {
        return leg == 0 ? world.x : world.legs.get(leg - 1).x();
    }

    private int beginY(int leg) {
        return leg == 0 ? world.y : world.legs.get(leg - 1).y();
    }

    // ---- answers

    int legs() {
        return world.legs.size();
    }

    int legPoints(int leg) {
        index(leg, legs());
        return world.legs.get(leg).points();
    }

    int totalPoints() {
        return world.legs.stream().mapToInt(Leg::points).sum();
    }

    int gates() {
        return world.gates.size();
    }

    int legOf(int gate) {
        index(gate, gates());
        return world.gates.get(gate).leg();
    }

    boolean isOnLine(int gate) {
        int leg = legOf(gate);
        Leg end = world.legs.get(leg);
        return meet(world.gates.get(gate), beginX(leg), beginY(leg), end.x(), end.y());
    }

    int tolerance() {
        return world.tolerance;
    }

    int timeLimit() {
        return world.limit;
    }

    boolean isRunning() {
        return world.running;
    }

    int presentLeg() {
        state(world.running);
        return world.leg;
    }

    int flockX() {
        state(world.running);
        return world.flockX;
    }

    int flockY() {
        state(world.running);
        return world.flockY;
    }

    int nextGate() {
        state(world.running);
        if (open().isEmpty()) {
            throw new NoSuchElementException();
        }
        return open().get(0);
    }

    int gatesPassedTo(int x, int y) {
        argument(point(x, y));
        state(world.running);
        return passable(x, y).size();
    }

    boolean isOffLine(int x, int y) {
        argument(point(x, y));
        state(world.running);
        Leg end = world.legs.get(world.leg);
        return !distance(beginX(world.leg), beginY(world.leg), end.x(), end.y(), x, y, world.tolerance);
    }

    int lossOfStep(int x, int y, int seconds) {
        World before = world.copy();
        try {
            return step(x, y, seconds);
        } finally {
            world = before;
        }
    }

    int runs() {
        return world.results.size();
    }

    private Result result(int run) {
        index(run, runs());
        return world.results.get(run);
    }

    boolean isComplete(int run) {
        return result(run).complete;
    }

    int time(int run) {
        return result(run).time;
    }

    boolean hasPassed(int run, int gate) {
        index(gate, gates());
        return result(run).passed.contains(gate);
    }

    int pointsOn(int run, int leg) {
        index(leg, legs());
        return result(run).points.get(leg);
    }

    int score(int run) {
        return result(run).score();
    }

    int loss(int run, int kind) {
        return result(run).losses[kind];
    }

    private List<Result> ranked() {
        Comparator<Result> order = Comparator.comparing(Result::score).reversed();
        for (int leg = 0; leg < legs(); leg++) {
            int l = leg;
            order = order.thenComparing(r -> -r.points.get(l));
        }
        List<Result> ranked = new ArrayList<>(world.results);
        ranked.sort(order.thenComparing(r -> r.time).thenComparing(r -> r.number));
        return ranked;
    }

    int runAt(int rank) {
        if (rank < 0 || rank >= runs()) {
            throw new NoSuchElementException();
        }
        return ranked().get(rank).number;
    }

    int rankOf(int run) {
        return ranked().indexOf(result(run));
    }

    int bestOn(int leg) {
        index(leg, legs());
        return world.results.stream()
                .max(Comparator.<Result>comparingInt(r -> r.points.get(leg)).thenComparing(r -> -r.number))
                .orElseThrow(NoSuchElementException::new).number;
    }

    double meanScore() {
        if (runs() == 0) {
            throw new ArithmeticException();
        }
        return (double) world.results.stream().mapToInt(Result::score).sum() / (double) runs();
    }

    float passRate(int gate) {
        index(gate, gates());
        if (runs() == 0) {
            throw new ArithmeticException();
        }
        return (float) world.results.stream().filter(r -> r.passed.contains(gate)).count() / (float) runs();
    }

    int writeRun(int run) {
        Result result = result(run);
        List<String> points = result.points.stream().map(String::valueOf).toList();
        boolean goesOn = world.running && result == world.last();
        line = run + ":" + String.join("+", points) + "=" + result.score()
                + (goesOn ? "*" : result.complete ? "!" : "");
        return line.length();
    }

    int writeRanking() {
        line = String.join(" ", ranked().stream().map(r -> r.number + "=" + r.score()).toList());
        return line.length();
    }

    String line() {
        return line;
    }

    // ---- programs

    int type(char character) {
        state(buffer.length() < 60);
        buffer += character;
        return buffer.length();
    }

    int execute() {
        String text = buffer;
        buffer = "";
        if (!PROGRAM.matcher(text).matches()) {
            errorPosition = firstError(text);
            throw new IllegalArgumentException();
        }
        int[] command = {0};
        try {
            return change(() -> {
                for (String part : text.split(";")) {
                    perform(part);
                    command[0]++;
                }
                return command[0];
            });
        } catch (RuntimeException e) {
            failedCommand = command[0];
            throw new UnsupportedOperationException();
        }
    }

    /** Answers how long the longest part from the begin is with which a program can begin. */
    private static int firstError(String text) {
        int length = 0;
        while (length < text.length() && canContinue(text.substring(0, length + 1))) {
            length++;
        }
        return length;
    }

    private static boolean canContinue(String text) {
        Matcher matcher = PROGRAM.matcher(text);
        return matcher.matches() || matcher.hitEnd();
    }

    private void perform(String text) {
        for (int kind = 0; kind < COMMANDS.length; kind++) {
            Matcher matcher = Pattern.compile(COMMANDS[kind].replace("N", NUMBER)).matcher(text);
            if (matcher.matches()) {
                int[] n = new int[5];
                for (int i = 0; i < matcher.groupCount(); i++) {
                    n[i] = Integer.parseInt(matcher.group(i + 1));
                }
                perform(kind, n);
            }
        }
    }

    private void perform(int kind, int[] n) {
        switch (kind) {
            case 0 -> start(n[0], n[1]);
            case 1 -> leg(n[0], n[1], n[2]);
            case 2 -> gate(n[0], n[1], n[2], n[3], n[4]);
            case 3 -> limit(n[0]);
            case 4 -> width(n[0]);
            case 5 -> begin();
            case 6 -> step(n[0], n[1], n[2]);
            case 7 -> deduct(n[0]);
            default -> giveUp();
        }
    }

    int errorPosition() {
        if (errorPosition == null) {
            throw new NoSuchElementException();
        }
        return errorPosition;
    }

    int failedCommand() {
        if (failedCommand == null) {
            throw new NoSuchElementException();
        }
        return failedCommand;
    }

    // ---- undo and snapshots

    int undo() {
        state(!past.isEmpty());
        world = past.removeLast();
        return past.size();
    }

    int save() {
        saved = world.copy();
        return runs();
    }

    int restore() {
        state(saved != null);
        world = saved.copy();
        past.clear();
        return runs();
    }

    /** What tests look at to find good steps: the present leg's ends, and the posts of the gates. */
    List<int[]> placesOfInterest() {
        List<int[]> places = new ArrayList<>();
        places.add(new int[] {world.x, world.y});
        world.legs.forEach(l -> places.add(new int[] {l.x(), l.y()}));
        world.gates.forEach(g -> places.add(new int[] {g.x1(), g.y1()}));
        world.gates.forEach(g -> places.add(new int[] {g.x2(), g.y2()}));
        if (world.running) {
            places.add(new int[] {world.legs.get(world.leg).x(), world.legs.get(world.leg).y()});
            places.add(new int[] {world.legs.get(world.leg).x(), world.legs.get(world.leg).y()});
        }
        return places;
    }
}
