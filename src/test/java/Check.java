import java.util.Objects;
import java.util.concurrent.Callable;

/** Counts checks and tells every one that fails. */
final class Check {
    static int checks = 0;
    static int failures = 0;

    private Check() {
    }

    static void equal(String what, Object due, Object got) {
        checks++;
        if (!Objects.equals(due, got)) {
            failures++;
            System.out.println(what + ": due is " + due + ", got " + got);
        }
    }

    static void isTrue(String what, boolean got) {
        equal(what, true, got);
    }

    static void isFalse(String what, boolean got) {
        equal(what, false, got);
    }

    /** Checks that a call throws an exception of exactly this class. */
    static void refused(String what, Class<? extends Exception> due, Callable<?> call) {
        equal(what, due.getSimpleName(), outcome(call));
    }

    /** Answers what a call answers, or the simple name of the class of what it throws. */
    static Object outcome(Callable<?> call) {
        try {
            return call.call();
        } catch (Exception e) {
            return e.getClass().getSimpleName();
        }
    }

    /** Types a text into the program buffer. */
    static void type(SheepdogTrial trial, String text) {
        for (char c : text.toCharArray()) {
            trial.type(c);
        }
    }

    /** Types and executes a program; answers as outcome does. */
    static Object execute(SheepdogTrial trial, String text) {
        type(trial, text);
        return outcome(trial::execute);
    }

    /** Reads the whole output line, which must end where charAt refuses. */
    static String line(SheepdogTrial trial) {
        StringBuilder text = new StringBuilder();
        while (text.length() < 1000) {
            int index = text.length();
            Object sign = outcome(() -> trial.charAt(index));
            if (!(sign instanceof Character)) {
                equal("the end of the line", "IndexOutOfBoundsException", sign);
                break;
            }
            text.append(sign);
        }
        return text.toString();
    }

    /** A course of two legs, (10,10) to (50,10) to (50,50), 20 and 10 points, with a gate on each. */
    static SheepdogTrial twoLegs() {
        SheepdogTrial trial = new SheepdogTrial();
        trial.setStart(10, 10);
        trial.addLeg(50, 10, 20);
        trial.addLeg(50, 50, 10);
        trial.addGate(0, 30, 5, 30, 15);
        trial.addGate(1, 45, 30, 55, 30);
        return trial;
    }

    /** The two legs with a run that is going on. */
    static SheepdogTrial twoLegsRunning() {
        SheepdogTrial trial = twoLegs();
        trial.startRun();
        return trial;
    }

    static final Class<IllegalArgumentException> ARGUMENT = IllegalArgumentException.class;
    static final Class<IllegalStateException> STATE = IllegalStateException.class;
    static final Class<IndexOutOfBoundsException> INDEX = IndexOutOfBoundsException.class;
    static final Class<java.util.NoSuchElementException> ELEMENT = java.util.NoSuchElementException.class;
    static final Class<ArithmeticException> ARITHMETIC = ArithmeticException.class;
    static final Class<UnsupportedOperationException> UNSUPPORTED = UnsupportedOperationException.class;
}
