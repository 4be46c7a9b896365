import java.util.NoSuchElementException;
import java.util.function.IntFunction;

/** What the tests share: how an answer is compared with the one that is due, and the sites that they begin with. */
abstract class Checks {
    interface Call {
        Object answer();
    }

    static final Class<?> NO_SUCH = NoSuchElementException.class;
    static final Class<?> ARGUMENT = IllegalArgumentException.class;
    static final Class<?> STATE = IllegalStateException.class;
    static final Class<?> UNSUPPORTED = UnsupportedOperationException.class;
    static final Class<?> ARITHMETIC = ArithmeticException.class;
    static final int[] NO_NUMBERS = {-1, 40, 99, Integer.MIN_VALUE, Integer.MAX_VALUE};
    static final int[] NO_MINUTES = {-1, 1440, Integer.MIN_VALUE, Integer.MAX_VALUE};

    static final int[] CRANE_LEAST = {0, 0, 1, 1, 1};
    static final int[] CRANE_MOST = {39, 39, 40, 999, 9999};
    static final int[] LIFT_LEAST = {0, 0, 0, 0, 1, 1};
    static final int[] LIFT_MOST = {39, 39, 39, 39, 999, 60};
    static final int[] POUR_LEAST = {0, 0, 0, 0, 1, 1, 2, 0};
    static final int[] POUR_MOST = {39, 39, 39, 39, 999, 60, 8, 60};

    /** The part of the document that the checks belong to, told with each wrong answer. */
    static String part = "";
    private static int checks;
    private static int wrong;

    static void due(String what, Object want, Call call) {
        checks++;
        Object got = answerOf(call);
        if (!want.equals(got)) {
            wrong++;
            System.out.println(part + " -- " + what + " answered " + got + ", due is " + want);
        }
    }

    /** What a call answers, or the class of the exception that it throws. */
    static Object answerOf(Call call) {
        try {
            return call.answer();
        } catch (RuntimeException e) {
            return e.getClass();
        }
    }

    static void dueForNoNumbers(String what, IntFunction<Object> call) {
        for (int number : NO_NUMBERS) {
            due(what + " for " + number, NO_SUCH, () -> call.apply(number));
        }
    }

    static void finish() {
        System.out.println(checks - wrong + " passed, " + wrong + " failed");
        if (wrong > 0) {
            System.exit(1);
        }
    }

    static Object addCrane(Cranepool site, int[] n) {
        return site.addCrane(n[0], n[1], n[2], n[3], n[4]);
    }

    static Object addLift(Cranepool site, int[] n) {
        return site.addLift(n[0], n[1], n[2], n[3], n[4], n[5]);
    }

    static Object addPour(Cranepool site, int[] n) {
        return site.addPour(n[0], n[1], n[2], n[3], n[4], n[5], n[6], n[7]);
    }

    static int[] with(int[] numbers, int index, int number) {
        int[] changed = numbers.clone();
        changed[index] = number;
        return changed;
    }

    /** One strong crane in the middle, with every permit. */
    static Cranepool oneCrane() {
        Cranepool site = new Cranepool();
        site.addCrane(20, 20, 40, 999, 9999);
        site.permit(0, 0, 24);
        return site;
    }

    /** Two strong cranes that reach every place that the tests use, with every permit. */
    static Cranepool twoCranes() {
        Cranepool site = oneCrane();
        site.addCrane(20, 21, 40, 999, 9999);
        site.permit(1, 0, 24);
        return site;
    }

    /** A lift that takes some minutes, in the air of the first square alone. */
    static int cornerLift(Cranepool site, int minutes) {
        return site.addLift(0, 0, 4, 4, 10, minutes);
    }

    /** A lift that takes some minutes, in the air of the last square alone. */
    static int farLift(Cranepool site, int minutes) {
        return site.addLift(35, 35, 39, 39, 10, minutes);
    }

    static void passTo(Cranepool site, int minute) {
        while (site.now() < minute) {
            site.pass(Math.min(240, minute - site.now()));
        }
    }
}
