/** Calls that are refused: each throws the exception that is due, and nothing has changed by it. */
final class Refusal {
    interface Call {
        Object on(SheepdogTrial trial) throws Exception;
    }

    interface NumberCall {
        Object on(SheepdogTrial trial, int number) throws Exception;
    }

    private Refusal() {
    }

    /** Checks a call that every one of some stages refuses. */
    static void check(String what, Class<? extends Exception> due, Call call, Stage... stages) {
        for (Stage stage : stages) {
            check(what, due, call, stage, Probe.values());
        }
    }

    private static void check(String what, Class<? extends Exception> due, Call call, Stage stage, Probe... probes) {
        String name = what + " on " + stage;
        for (Probe probe : probes) {
            SheepdogTrial trial = stage.make();
            Check.refused(name, due, () -> call.on(trial));
            Check.equal(name + " changes nothing (" + probe + ")", stage.portrait(probe), probe.of(trial));
        }
    }

    /** Checks that the numbers outside of a range are refused, the nearest and the farthest ones. */
    static void outside(String what, Class<? extends Exception> due, int low, int high, NumberCall call,
            Stage... stages) {
        int[] numbers = {Integer.MIN_VALUE, Integer.MIN_VALUE + low, -high - 1, low - 1, high + 1, 256 + low,
            65536 + low, Integer.MAX_VALUE};
        for (int number : numbers) {
            if (number < low || number > high) {
                check(what + " " + number, due, trial -> call.on(trial, number), stages);
            }
        }
    }

    /** Checks that every number but those from 0 to below a count is refused as an index. */
    static void index(String what, int count, NumberCall call, Stage stage) {
        outside(what, Check.INDEX, 0, count - 1, call, stage);
    }

    /** Checks an execution that is refused: it empties the buffer and changes nothing else but one record. */
    static void execution(String text, Class<? extends Exception> due, String records, Stage stage) {
        String name = "'" + text + "' on " + stage;
        for (Probe probe : Probe.STATE) {
            SheepdogTrial trial = stage.makeWithText(text);
            Check.refused(name, due, trial::execute);
            Check.equal(name + " changes nothing (" + probe + ")", stage.portrait(probe), probe.of(trial));
        }
        SheepdogTrial trial = stage.makeWithText(text);
        Check.refused(name, due, trial::execute);
        Check.equal(name + ": the records", records, Portrait.records(trial));
        Check.equal(name + " empties the buffer", "room for 60", Portrait.roomInBuffer(trial));
    }
}
