import java.util.NoSuchElementException;
import java.util.Objects;

/** What the tests share: they look at answers, count them and tell of those that are not due. */
abstract class Checks {
    static final Class<?> INDEX = IndexOutOfBoundsException.class;
    static final Class<?> ARGUMENT = IllegalArgumentException.class;
    static final Class<?> STATE = IllegalStateException.class;
    static final Class<?> ELEMENT = NoSuchElementException.class;
    static final Class<?> UNSUPPORTED = UnsupportedOperationException.class;
    static final Class<?> ARITHMETIC = ArithmeticException.class;
    static final int LEAST = Integer.MIN_VALUE;
    static final int MOST = Integer.MAX_VALUE;

    interface Call {
        Object answer();
    }

    interface PairCall {
        Object answer(int from, int to);
    }

    interface MemberCall {
        Object answer(int member);
    }

    /** What the checks are about now. */
    static String about = "";
    static int checks = 0;
    static int wrong = 0;

    static void due(Object want, Object got) {
        checks++;
        if (!Objects.equals(want, got)) {
            wrong++;
            System.out.println(about + ": answered " + got + ", due is " + want + " at " + place());
        }
    }

    /** The line of the test that asked, below those of this class. */
    private static StackTraceElement place() {
        for (StackTraceElement element : new Throwable().getStackTrace()) {
            if (!element.getClassName().startsWith("Checks")) {
                return element;
            }
        }
        return null;
    }

    static Object outcome(Call call) {
        try {
            return call.answer();
        } catch (RuntimeException e) {
            return e.getClass();
        }
    }

    static void refused(Class<?> want, Call call) {
        due(want, outcome(call));
    }

    static String outputOf(BridgeChapel chapel, int length) {
        StringBuilder text = new StringBuilder();
        for (int index = 0; index < length; index++) {
            text.append(chapel.outputAt(index));
        }
        refused(INDEX, () -> chapel.outputAt(length));
        return text.toString();
    }

    static void typeAll(BridgeChapel chapel, String text) {
        for (char character : text.toCharArray()) {
            chapel.type(character);
        }
    }

    static int run(BridgeChapel chapel, String text) {
        typeAll(chapel, text);
        return chapel.runScript();
    }

    /** Runs a script that must not have the form; answers its error position. */
    static int errorOf(BridgeChapel chapel, String text) {
        refused(ARGUMENT, () -> run(chapel, text));
        return chapel.errorPosition();
    }

    static int failedOf(BridgeChapel chapel, String text) {
        refused(STATE, () -> run(chapel, text));
        return chapel.failedCommand();
    }

    static void refusesPairs(PairCall call) {
        int[] noJoints = {-1, 8, LEAST, MOST};
        for (int joint : noJoints) {
            refused(INDEX, () -> call.answer(joint, 0));
            refused(INDEX, () -> call.answer(0, joint));
            refused(INDEX, () -> call.answer(joint, joint));
        }
        for (int joint = 0; joint < 8; joint++) {
            int same = joint;
            refused(ARGUMENT, () -> call.answer(same, same));
        }
    }

    static void refusesMembers(int count, MemberCall call) {
        refused(INDEX, () -> call.answer(-1));
        refused(INDEX, () -> call.answer(count));
        refused(INDEX, () -> call.answer(16));
        refused(INDEX, () -> call.answer(LEAST));
        refused(INDEX, () -> call.answer(MOST));
    }

    /** A ring over the joints 0 to 3 with a tail to 4: 0-1, 1-2, 2-3, 0-3, 3-4. */
    static BridgeChapel ring() {
        BridgeChapel chapel = new BridgeChapel();
        chapel.addMember(0, 1, 60);
        chapel.addMember(1, 2, 50);
        chapel.addMember(2, 3, 55);
        chapel.addMember(0, 3, 40);
        chapel.addMember(3, 4, 99);
        return chapel;
    }

    /** Walks over the member, with all others abandoned meanwhile, until it has the crack; the niche must be empty. */
    static void crackTo(BridgeChapel chapel, int member, int crack) {
        boolean[] left = new boolean[chapel.memberCount()];
        for (int other = 0; other < left.length; other++) {
            left[other] = other != member && !chapel.isAbandoned(other);
            if (left[other]) {
                chapel.abandon(other);
            }
        }
        int from = chapel.firstJoint(member);
        int to = chapel.secondJoint(member);
        while (chapel.crack(member) < crack) {
            int load = chapel.bearing(member);
            for (int wear = chapel.wear(member); wear < 100; wear += load) {
                chapel.procession(from, to, load);
            }
        }
        for (int other = 0; other < left.length; other++) {
            if (left[other]) {
                chapel.resume(other);
            }
        }
    }
}
