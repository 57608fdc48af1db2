/** The edges of promises 47 to 50, sentence by sentence. */
final class ProgramBoundaryTest {
    /** Programs of every command, with numbers of one, two and three digits. */
    private static final String[] PROGRAMS = {"start 1,99", "start 012,3", "leg 1,22=30", "leg 45,006=7",
        "gate 0 1,22-3,044", "gate 9 98,7-65,43", "limit 60", "limit 999", "width 1", "width 020", "run", "walk 1,22+3",
        "walk 333,4+555", "fault 1", "retire", "run;fault 9;retire", "width 5;run", "limit 7;leg 1,2=3"};

    /** Characters of the grammar, their neighbours, and the smallest and largest ones. */
    private static final String SIGNS = "0159/:;<,+*-.=> !\t\n#?sSStartlegaidhmunkfwRxz"
            + (char) 0 + (char) 127 + (char) 128 + (char) 255 + (char) 304 + (char) 0x660 + (char) 0xff10
            + (char) 65535;

    private ProgramBoundaryTest() {
    }

    static void run() {
        anyCharacter();
        sixtyCharacters();
        sixtyCharactersThatAreAProgram();
        noCharacters();
        bufferIsEmptyAfterwards();
        numbersOfOneToThreeDigits();
        digits();
        commandsAndSemicolons();
        everyPrefix();
        everyWrongCharacter();
        errorPositionsOfFullBuffers();
        valuesOfCommands();
        commandsThatFail();
        numbersOfFailedCommands();
        allOrNone();
        noRecords();
        latestRecords();
    }

    // "character: any character"
    private static void anyCharacter() {
        SheepdogTrial trial = new SheepdogTrial();
        for (int character = 0; character <= 65535; character++) {
            if (character % 100 == 0) {
                trial = new SheepdogTrial();
            }
            int due = "slgwrf".indexOf((char) character) >= 0 ? 1 : 0;
            Check.equal("type character " + character, 1, trial.type((char) character));
            Check.refused("execute character " + character, Check.ARGUMENT, trial::execute);
            Check.equal("error position of character " + character, due, trial.errorPosition());
        }
    }

    // "Throws IllegalStateException if the buffer contains 60 characters"
    private static void sixtyCharacters() {
        SheepdogTrial trial = new SheepdogTrial();
        for (int length = 1; length <= 60; length++) {
            Check.equal("character " + length, length, trial.type((char) (length * 1000)));
        }
        Check.refused("character 61", Check.STATE, () -> trial.type('r'));
        Check.refused("character 61 again", Check.STATE, () -> trial.type('r'));
        Check.refused("execute", Check.ARGUMENT, trial::execute);
        Check.equal("the first character after execute", 1, trial.type('r'));
        for (char character : new char[] {'n', ';', 0, 65535}) {
            Refusal.check("a 61st character", Check.STATE, t -> t.type(character), Stage.FULL_COURSE,
                    Stage.FULL_RUNNING, Stage.FULL_ENDED);
        }
    }

    private static void sixtyCharactersThatAreAProgram() {
        Check.equal("60 characters", 60, Stage.SIXTY_CHARACTERS.length());
        SheepdogTrial trial = Stage.FULL_COURSE.make();
        Check.equal("a program of 60 characters", 7, trial.execute());
        Check.equal("its tolerance", 5, trial.tolerance());
        Check.isTrue("its last command", trial.isRunning());
        SheepdogTrial running = Stage.FULL_RUNNING.make();
        Check.refused("the same in a run", Check.UNSUPPORTED, running::execute);
        Check.equal("its failed command", 0, running.failedCommand());
    }

    // The empty text is a proper prefix of a program; its length is 0.
    private static void noCharacters() {
        Refusal.execution("", Check.ARGUMENT, "0 NoSuchElementException", Stage.NEW);
        Refusal.execution("", Check.ARGUMENT, "0 2", Stage.COURSE);
        Refusal.execution("", Check.ARGUMENT, "0 2", Stage.RUNNING);
        Refusal.execution("", Check.ARGUMENT, "0 2", Stage.FULL_ENDED);
    }

    // "The buffer is empty afterwards in every case."
    private static void bufferIsEmptyAfterwards() {
        for (String text : new String[] {"", "width 5", "widths", "fault 1", "width 5;run", "width 5;", "run;run"}) {
            SheepdogTrial trial = Stage.COURSE.makeWithText(text);
            Check.outcome(trial::execute);
            Check.equal("execute again after '" + text + "'", "IllegalArgumentException",
                    Check.outcome(trial::execute));
            Check.equal("its error position", 0, trial.errorPosition());
            Check.equal("the first character", 1, trial.type('x'));
            Check.outcome(trial::execute);
            Check.equal("all room is there", "room for 60", Portrait.roomInBuffer(trial));
        }
    }

    // "number = digit [ digit [ digit ] ]", in every place of every command;
    // "#" stands for the number, the others are in range.
    private static void numbersOfOneToThreeDigits() {
        String[] texts = {"start #,5", "start 5,#", "leg #,5=5", "leg 5,#=5", "leg 5,5=#", "gate 0 #,5-6,6",
            "gate 0 5,#-6,6", "gate 0 6,6-#,5", "gate 0 6,6-5,#", "limit #", "width #", "walk #,5+5", "walk 5,#+5",
            "walk 5,5+#"};
        for (String text : texts) {
            int place = text.indexOf('#');
            boolean walks = text.startsWith("walk");
            String least = text.startsWith("limit") ? "60" : "1";
            Stage stage = walks ? Stage.RUNNING : Stage.COURSE;
            for (String number : new String[] {least, "0" + least, "10", "010"}) {
                if (number.length() <= 3 && (least.length() == 1 || number.endsWith(least))) {
                    expectCommands(stage, text.replace("#", number), 1);
                }
            }
            Refusal.execution(text.replace("#", "0001"), Check.ARGUMENT, place + 3 + " 2", stage);
            Refusal.execution(text.replace("#", ""), Check.ARGUMENT, place + " 2", stage);
            Refusal.execution(text.replace("#", "-1"), Check.ARGUMENT, place + " 2", stage);
            Refusal.execution(text.replace("#", "1x"), Check.ARGUMENT, place + 1 + " 2", stage);
            Refusal.execution(text.replace("#", "12 "), Check.ARGUMENT, place + 2 + " 2", stage);
        }
    }

    private static void expectCommands(Stage stage, String text, int commands) {
        SheepdogTrial trial = stage.makeWithText(text);
        Check.equal("commands of '" + text + "' on " + stage, commands, Check.outcome(trial::execute));
        Check.equal("records after '" + text + "'", stage.portrait(Probe.RECORDS), Portrait.records(trial));
        Check.equal("room after '" + text + "'", "room for 60", Portrait.roomInBuffer(trial));
    }

    // ""gate " digit", ""fault " digit"
    private static void digits() {
        for (char digit = '0'; digit <= '9'; digit++) {
            String fault = "fault " + digit;
            String gate = "gate " + digit + " 1,1-2,2";
            if (digit == '0') {
                Refusal.execution(fault, Check.UNSUPPORTED, "4 0", Stage.RUNNING);
            } else {
                expectCommands(Stage.RUNNING, fault, 1);
            }
            if (digit > '1') {
                Refusal.execution(gate, Check.UNSUPPORTED, "4 0", Stage.COURSE);
            } else {
                expectCommands(Stage.COURSE, gate, 1);
            }
        }
        for (String text : new String[] {"fault 10", "fault 01", "fault 1 ", "gate 00 1,1-2,2", "gate 1,1,1-2,2"}) {
            Refusal.execution(text, Check.ARGUMENT, text.startsWith("gate") ? "6 2" : "7 2", Stage.RUNNING);
        }
        for (char sign : new char[] {'/', ':', 'x', ' ', '-', (char) 0x661, (char) 0xff11}) {
            Refusal.execution("fault " + sign, Check.ARGUMENT, "6 2", Stage.RUNNING);
            Refusal.execution("gate " + sign, Check.ARGUMENT, "5 2", Stage.COURSE);
        }
    }

    // "program = command { ";" command}"
    private static void commandsAndSemicolons() {
        expectCommands(Stage.COURSE, "run", 1);
        expectCommands(Stage.COURSE, "run;retire", 2);
        expectCommands(Stage.COURSE, "run;retire;run;retire;run;retire;run;retire;run;retire;run", 11);
        Refusal.execution(";run", Check.ARGUMENT, "0 2", Stage.COURSE);
        Refusal.execution("run;", Check.ARGUMENT, "4 2", Stage.COURSE);
        Refusal.execution("run;;retire", Check.ARGUMENT, "4 2", Stage.COURSE);
        Refusal.execution("run; retire", Check.ARGUMENT, "4 2", Stage.COURSE);
        Refusal.execution("run ;retire", Check.ARGUMENT, "3 2", Stage.COURSE);
        Refusal.execution(" run", Check.ARGUMENT, "0 2", Stage.COURSE);
        Refusal.execution("run\n", Check.ARGUMENT, "3 2", Stage.COURSE);
        Refusal.execution("runretire", Check.ARGUMENT, "3 2", Stage.COURSE);
        Refusal.execution("run,retire", Check.ARGUMENT, "3 2", Stage.COURSE);
        Refusal.execution("Run", Check.ARGUMENT, "0 2", Stage.COURSE);
        Refusal.execution("rUn", Check.ARGUMENT, "1 2", Stage.COURSE);
    }

    // "or the length of the text if the text is a proper prefix of a program"
    private static void everyPrefix() {
        for (String program : PROGRAMS) {
            for (int length = 0; length <= program.length(); length++) {
                compareWithModel(program.substring(0, length));
                compareWithModel("run;" + program.substring(0, length));
                compareWithModel("run;retire;" + program.substring(0, length));
            }
        }
        String[] prefixes = {"s", "start", "start ", "start 1", "start 123,", "l", "le", "li", "leg 1,2", "leg 1,2=",
            "g", "gate", "gate 1", "gate 1 ", "gate 1 1,1-", "gate 1 1,1-2,", "limit ", "w", "wi", "wa", "walk 1,1+",
            "r", "ru", "re", "f", "fault", "fault ", "retir", "run;", "run;r", "width 5;limit 99;"};
        for (String text : prefixes) {
            Refusal.execution(text, Check.ARGUMENT, text.length() + " 2", Stage.COURSE);
        }
    }

    // "the index of the first character at which no program can continue"
    private static void everyWrongCharacter() {
        for (String program : PROGRAMS) {
            for (int place = 0; place <= program.length(); place++) {
                String before = program.substring(0, place);
                String behind = program.substring(place);
                for (char sign : SIGNS.toCharArray()) {
                    compareWithModel(before + sign + behind);
                    compareWithModel(before + sign + (behind.isEmpty() ? "" : behind.substring(1)));
                }
                compareWithModel(before + (behind.isEmpty() ? "" : behind.substring(1)));
            }
        }
    }

    private static void compareWithModel(String text) {
        SheepdogTrial trial = new SheepdogTrial();
        Model model = new Model();
        trial.addLeg(50, 50, 9);
        model.addLeg(50, 50, 9);
        Check.type(trial, text);
        for (char c : text.toCharArray()) {
            model.type(c);
        }
        Check.equal("execute '" + text + "'", Check.outcome(model::execute), Check.outcome(trial::execute));
        String due = Check.outcome(model::errorPosition) + " " + Check.outcome(model::failedCommand);
        Check.equal("records of '" + text + "'", due, Portrait.records(trial));
        Check.equal("runs after '" + text + "'", model.runs(), trial.runs());
    }

    // Error positions 58, 59 and 60 of texts of 60 characters.
    private static void errorPositionsOfFullBuffers() {
        String commands = "run;".repeat(14);
        Refusal.execution(commands + "run;", Check.ARGUMENT, "60 2", Stage.COURSE);
        Refusal.execution(commands + "reti", Check.ARGUMENT, "60 2", Stage.COURSE);
        Refusal.execution(commands + "run,", Check.ARGUMENT, "59 2", Stage.COURSE);
        Refusal.execution(commands + "ruin", Check.ARGUMENT, "58 2", Stage.COURSE);
        Refusal.execution(commands + "run", Check.UNSUPPORTED, "4 1", Stage.COURSE);
        Refusal.execution("x".repeat(60), Check.ARGUMENT, "0 2", Stage.COURSE);
        Refusal.execution(Stage.SIXTY_CHARACTERS.replace("run", "rur"), Check.ARGUMENT, "59 2", Stage.COURSE);
        Refusal.execution(Stage.SIXTY_CHARACTERS.replace("run", "ret"), Check.ARGUMENT, "60 2", Stage.COURSE);
    }

    // The last value that each command takes, and the first that it refuses.
    private static void valuesOfCommands() {
        String[] courses = {"start 0,0", "start 99,99", "leg 0,0=1", "leg 99,99=30", "gate 0 0,0-99,99", "gate 1 99,0-0,99",
            "gate 1 5,5-5,6", "limit 60", "limit 999", "width 1", "width 20", "run"};
        for (String text : courses) {
            expectCommands(Stage.COURSE, text, 1);
        }
        String[] steps = {"walk 0,0+1", "walk 99,99+999", "walk 0,99+1", "fault 1", "fault 9", "retire"};
        for (String text : steps) {
            expectCommands(Stage.RUNNING, text, 1);
        }
        String[] wrongCourses = {"start 100,0", "start 0,100", "start 999,999", "leg 100,0=1", "leg 0,100=1",
            "leg 0,0=0", "leg 0,0=31", "leg 0,0=999", "gate 2 0,0-9,9", "gate 9 0,0-9,9", "gate 0 100,0-9,9",
            "gate 0 0,100-9,9", "gate 0 0,0-100,9", "gate 0 0,0-9,100", "gate 0 5,5-5,5", "gate 0 5,5-05,005",
            "limit 59", "limit 0", "width 0", "width 21", "width 999", "walk 1,1+1", "fault 1", "retire"};
        for (String text : wrongCourses) {
            Refusal.execution(text, Check.UNSUPPORTED, "4 0", Stage.COURSE);
            Refusal.execution("width 9;" + text, Check.UNSUPPORTED, "4 1", Stage.COURSE);
        }
        String[] wrongSteps = {"walk 100,0+1", "walk 0,100+1", "walk 0,0+0", "walk 0,0+000", "fault 0", "run",
            "start 0,0", "leg 0,0=1", "gate 0 0,0-9,9", "limit 60", "width 5"};
        for (String text : wrongSteps) {
            Refusal.execution(text, Check.UNSUPPORTED, "4 0", Stage.RUNNING);
            Refusal.execution("fault 1;walk 50,31+1;" + text, Check.UNSUPPORTED, "4 2", Stage.RUNNING);
        }
    }

    // "a command fails, that is, if the method for it throws an exception", by
    // each state in which it does.
    private static void commandsThatFail() {
        Refusal.execution("run", Check.UNSUPPORTED, "NoSuchElementException 0", Stage.NEW);
        Refusal.execution("gate 0 1,1-2,2", Check.UNSUPPORTED, "NoSuchElementException 0", Stage.NEW);
        Refusal.execution("leg 1,1=1", Check.UNSUPPORTED, "4 0", Stage.FULL_COURSE);
        Refusal.execution("gate 5 1,1-2,2", Check.UNSUPPORTED, "4 0", Stage.FULL_COURSE);
        Refusal.execution("run;retire;leg 1,1=1", Check.UNSUPPORTED, "4 2", Stage.COURSE);
        Refusal.execution("run", Check.UNSUPPORTED, "4 0", Stage.FULL_ENDED);
        Refusal.execution("retire;run", Check.UNSUPPORTED, "4 1", Stage.FULL_RUNNING);
        for (String text : new String[] {"walk 1,1+1", "fault 1", "retire"}) {
            Refusal.execution(text, Check.UNSUPPORTED, "4 0", Stage.ENDED);
            Refusal.execution("retire;" + text, Check.UNSUPPORTED, "4 1", Stage.RUNNING);
            Refusal.execution("walk 1,1+999;" + text, Check.UNSUPPORTED, "4 1", Stage.RUNNING);
            Refusal.execution("walk 50,50+1;" + text, Check.UNSUPPORTED, "4 1", Stage.RUNNING);
        }
        String sixLegs = "leg 1,1=1;leg 1,1=1;leg 1,1=1;leg 1,1=1";
        expectCommands(Stage.COURSE, sixLegs, 4);
        Refusal.execution(sixLegs + ";leg 1,1=1", Check.UNSUPPORTED, "4 4", Stage.COURSE);
    }

    // "the number of this command, counted from 0", up to the eleventh.
    private static void numbersOfFailedCommands() {
        String text = "";
        for (int command = 0; command < 10; command += 2) {
            Refusal.execution(text + "fault 1", Check.UNSUPPORTED, "4 " + command, Stage.COURSE);
            Refusal.execution(text + "run;run", Check.UNSUPPORTED, "4 " + (command + 1), Stage.COURSE);
            text += "run;retire;";
        }
        Refusal.execution(text + "run", Check.UNSUPPORTED, "4 10", Stage.ENDED);
        expectCommands(Stage.COURSE, text + "run", 11);
    }

    // "either all of them or, if one of them fails, none"
    private static void allOrNone() {
        SheepdogTrial all = Stage.COURSE.makeWithText("start 1,2;leg 70,70=7;gate 2 1,1-2,2;width 6;run");
        Check.equal("all of them", 5, all.execute());
        Check.equal("the course", "3 3 6 1", all.legs() + " " + all.gates() + " " + all.tolerance() + " " + all.runs());
        Check.equal("the flock", "1,2", all.flockX() + "," + all.flockY());
        Refusal.execution("start 1,2;leg 70,70=7;gate 2 1,1-2,2;width 6;run;run", Check.UNSUPPORTED, "4 5",
                Stage.COURSE);
        Refusal.execution("limit 99;start 1,2;width 6;run;fault 9;retire;fault 9", Check.UNSUPPORTED, "4 6",
                Stage.COURSE);
        Refusal.execution("walk 51,31+9;fault 3;walk 50,50+9;run;walk 29,16+9", Check.UNSUPPORTED, "4 3",
                Stage.FULL_RUNNING);
        Refusal.execution("walk 51,31+9;fault 3;walk 50,50+9;run;run", Check.UNSUPPORTED, "4 4", Stage.RUNNING);
        Refusal.execution("walk 51,31+9;fault 3;walk 50,50+9;run;x", Check.ARGUMENT, "38 2", Stage.RUNNING);
    }

    // "Throws NoSuchElementException if there was no such text", "if no
    // command failed"
    private static void noRecords() {
        Refusal.check("errorPosition", Check.ELEMENT, SheepdogTrial::errorPosition, Stage.NEW);
        Refusal.check("failedCommand", Check.ELEMENT, SheepdogTrial::failedCommand, Stage.NEW);
        SheepdogTrial error = new SheepdogTrial();
        Check.execute(error, "");
        Check.equal("error position 0", 0, error.errorPosition());
        Check.refused("no command failed", Check.ELEMENT, error::failedCommand);
        SheepdogTrial failed = new SheepdogTrial();
        Check.execute(failed, "run");
        Check.equal("failed command 0", 0, failed.failedCommand());
        Check.refused("no text was no program", Check.ELEMENT, failed::errorPosition);
        SheepdogTrial good = new SheepdogTrial();
        Check.equal("a program", 1, Check.execute(good, "width 6"));
        Check.refused("no error position after a program", Check.ELEMENT, good::errorPosition);
        Check.refused("no failed command after a program", Check.ELEMENT, good::failedCommand);
        Check.refused("a call that is no command", Check.STATE, good::retire);
        Check.refused("no failed command after a refused call", Check.ELEMENT, good::failedCommand);
    }

    // "of the latest text that was not a program", "of the latest command that
    // failed in a program"
    private static void latestRecords() {
        SheepdogTrial trial = Check.twoLegs();
        Check.execute(trial, "run;run");
        Check.execute(trial, "run;x");
        Check.equal("the first records", "4 1", Portrait.records(trial));
        Check.execute(trial, "fault 1");
        Check.equal("a smaller number", "4 0", Portrait.records(trial));
        Check.execute(trial, "");
        Check.equal("a smaller position", "0 0", Portrait.records(trial));
        Check.execute(trial, "run;retire;retire");
        Check.execute(trial, "retires");
        Check.equal("greater ones", "6 2", Portrait.records(trial));
        Check.equal("a program", 1, Check.execute(trial, "run"));
        trial.undo();
        trial.save();
        trial.restore();
        Check.equal("the records stay", "6 2", Portrait.records(trial));
    }
}
