import java.util.function.Function;

/** The ways to look at a trial; each but the first ones changes it, so each is used on a trial of its own. */
enum Probe {
    ANSWERS(Portrait::answers),
    LINE(Check::line),
    RECORDS(Portrait::records),
    ROOM_IN_BUFFER(Portrait::roomInBuffer),
    TEXT_IN_BUFFER(Portrait::textInBuffer),
    UNDONE_CHANGES(Portrait::undoneChanges),
    SAVED_STATE(Portrait::savedState),
    NEXT_RUN(Portrait::nextRun);

    /** What a call that is refused must leave, but for the program buffer and the records. */
    static final Probe[] STATE = {ANSWERS, LINE, UNDONE_CHANGES, SAVED_STATE, NEXT_RUN};

    private final Function<SheepdogTrial, String> look;

    Probe(Function<SheepdogTrial, String> look) {
        this.look = look;
    }

    String of(SheepdogTrial trial) {
        return look.apply(trial);
    }
}
