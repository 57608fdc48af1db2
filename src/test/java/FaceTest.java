import java.lang.reflect.Constructor;
import java.lang.reflect.Member;
import java.lang.reflect.Method;
import java.lang.reflect.Modifier;
import java.util.Set;
import java.util.TreeSet;

/** Compares the class with the document's face. */
final class FaceTest {
    private static final String[] FACE = {
        "int setStart(int,int) IllegalArgumentException,IllegalStateException",
        "int addLeg(int,int,int) IllegalArgumentException,IllegalStateException",
        "int addGate(int,int,int,int,int) IndexOutOfBoundsException,IllegalArgumentException,IllegalStateException",
        "int setTolerance(int) IllegalArgumentException,IllegalStateException",
        "int setTimeLimit(int) IllegalArgumentException,IllegalStateException",
        "int startRun() IllegalStateException",
        "int walk(int,int,int) IllegalArgumentException,IllegalStateException",
        "int fault(int) IllegalArgumentException,IllegalStateException",
        "int retire() IllegalStateException",
        "int legs() ",
        "int legPoints(int) IndexOutOfBoundsException",
        "int totalPoints() ",
        "int gates() ",
        "int legOf(int) IndexOutOfBoundsException",
        "boolean isOnLine(int) IndexOutOfBoundsException",
        "int tolerance() ",
        "int timeLimit() ",
        "boolean isRunning() ",
        "int presentLeg() IllegalStateException",
        "int flockX() IllegalStateException",
        "int flockY() IllegalStateException",
        "int nextGate() IllegalStateException,NoSuchElementException",
        "int gatesPassedTo(int,int) IllegalArgumentException,IllegalStateException",
        "boolean isOffLine(int,int) IllegalArgumentException,IllegalStateException",
        "int lossOfStep(int,int,int) IllegalArgumentException,IllegalStateException",
        "int runs() ",
        "boolean isComplete(int) IndexOutOfBoundsException",
        "int time(int) IndexOutOfBoundsException",
        "boolean hasPassed(int,int) IndexOutOfBoundsException",
        "int pointsOn(int,int) IndexOutOfBoundsException",
        "int score(int) IndexOutOfBoundsException",
        "int scoreByLosses(int) IndexOutOfBoundsException",
        "int lineLoss(int) IndexOutOfBoundsException",
        "int gateLoss(int) IndexOutOfBoundsException",
        "int faultLoss(int) IndexOutOfBoundsException",
        "int timeLoss(int) IndexOutOfBoundsException",
        "int runAt(int) NoSuchElementException",
        "int rankOf(int) IndexOutOfBoundsException",
        "int bestOn(int) IndexOutOfBoundsException,NoSuchElementException",
        "double meanScore() ArithmeticException",
        "float passRate(int) IndexOutOfBoundsException,ArithmeticException",
        "boolean isConsistent() ",
        "int writeRun(int) IndexOutOfBoundsException",
        "int writeRanking() ",
        "char charAt(int) IndexOutOfBoundsException",
        "int type(char) IllegalStateException",
        "int execute() IllegalArgumentException,UnsupportedOperationException",
        "int errorPosition() NoSuchElementException",
        "int failedCommand() NoSuchElementException",
        "int undo() IllegalStateException",
        "int save() ",
        "int restore() IllegalStateException",
    };

    private FaceTest() {
    }

    static void run() throws Exception {
        classIsPublicAndFinal();
        methodsAreThoseOfTheDocument();
        nothingElseIsVisible();
    }

    private static void classIsPublicAndFinal() {
        int modifiers = SheepdogTrial.class.getModifiers();
        Check.isTrue("the class is public", Modifier.isPublic(modifiers));
        Check.isTrue("the class is final", Modifier.isFinal(modifiers));
        Constructor<?>[] constructors = SheepdogTrial.class.getDeclaredConstructors();
        Check.equal("number of constructors", 1, constructors.length);
        Check.isTrue("the constructor is public", Modifier.isPublic(constructors[0].getModifiers()));
        Check.equal("parameters of the constructor", 0, constructors[0].getParameterCount());
    }

    private static void methodsAreThoseOfTheDocument() {
        Set<String> got = new TreeSet<>();
        for (Method method : SheepdogTrial.class.getDeclaredMethods()) {
            if (Modifier.isPublic(method.getModifiers())) {
                Check.isFalse(method.getName() + " is static", Modifier.isStatic(method.getModifiers()));
                got.add(declaration(method));
            }
        }
        Check.equal("the public methods", new TreeSet<>(Set.of(FACE)), got);
    }

    private static String declaration(Method method) {
        return method.getReturnType() + " " + method.getName() + "(" + names(method.getParameterTypes()) + ") "
                + names(method.getExceptionTypes());
    }

    private static String names(Class<?>[] types) {
        StringBuilder text = new StringBuilder();
        for (Class<?> type : types) {
            text.append(text.length() == 0 ? "" : ",").append(type.getSimpleName());
        }
        return text.toString();
    }

    private static void nothingElseIsVisible() {
        Set<String> face = new TreeSet<>();
        for (String declaration : FACE) {
            face.add(declaration.substring(declaration.indexOf(' ') + 1, declaration.indexOf('(')));
        }
        for (Method method : SheepdogTrial.class.getDeclaredMethods()) {
            if (!Modifier.isPublic(method.getModifiers())) {
                isPrivate(method);
                Check.isFalse(method + " bears the name of a public one", face.contains(method.getName()));
            }
        }
        for (Member field : SheepdogTrial.class.getDeclaredFields()) {
            isPrivate(field);
        }
    }

    private static void isPrivate(Member member) {
        Check.isTrue(member + " is private", Modifier.isPrivate(member.getModifiers()));
    }
}
