import java.lang.reflect.Method;
import java.lang.reflect.Modifier;
import java.util.Map;
import java.util.TreeMap;
import java.util.function.Consumer;

/** What the tests of the project share: it counts wrong answers, prints them, and ends with 1 if there was one. */
final class Check {
    private static int wrong = 0;
    private static int done = 0;
    /** The test that runs now, where a class has its tests run by eachTest. */
    private static String test = "";

    private Check() {
    }

    static void due(String what, long got, long want) {
        tell(got == want, what + " answered " + got + ", due is " + want);
    }

    static void due(String what, double got, double want) {
        tell(got == want, what + " answered " + got + ", due is " + want);
    }

    static void due(String what, String got, String want) {
        tell(got.equals(want), what + " answered " + got + ", due is " + want);
    }

    static void due(String what, boolean got, boolean want) {
        tell(got == want, what + " answered " + got + ", due is " + want);
    }

    static void dueThrow(String what, Class<? extends RuntimeException> want, Runnable call) {
        String got = "nothing";
        try {
            call.run();
        } catch (RuntimeException e) {
            got = e.getClass().getName();
        }
        tell(got.equals(want.getName()), what + " threw " + got + ", due is " + want.getName());
    }

    private static void tell(boolean isRight, String text) {
        done++;
        if (!isRight) {
            wrong++;
            System.out.println(test + text);
        }
    }

    /** Runs each method of a class that is a test of its own: static, without parameters and without answer. */
    static void eachTest(Class<?> tests) {
        Map<String, Method> byName = new TreeMap<>();
        for (Method method : tests.getDeclaredMethods()) {
            if (isTest(method)) {
                byName.put(method.getName(), method);
            }
        }
        for (Method method : byName.values()) {
            test = method.getName() + ": ";
            runTest(method);
        }
        test = "";
        System.out.println(byName.size() + " tests in " + tests.getName());
    }

    private static boolean isTest(Method method) {
        return Modifier.isStatic(method.getModifiers()) && !method.isSynthetic() && method.getParameterCount() == 0
            && method.getReturnType() == void.class;
    }

    private static void runTest(Method method) {
        try {
            method.setAccessible(true);
            method.invoke(null);
        } catch (ReflectiveOperationException e) {
            tell(false, "ended with " + (e.getCause() == null ? e : e.getCause()));
        }
    }

    /** A refusal for a reason with a detail, behind which nothing stands. */
    static void dueRefusal(ErrataPress press, int reason, int detail, Runnable call) {
        dueThrow("a call refused for " + reason, UnsupportedOperationException.class, call);
        due("the reason", press.refusal(false, false), reason);
        due("its detail", press.refusal(false, true), detail);
        dueThrow("the reason behind " + reason, NO_ELEMENT, () -> press.refusal(true, false));
        dueThrow("the detail behind " + reason, NO_ELEMENT, () -> press.refusal(true, true));
    }

    static void type(ErrataPress press, String text) {
        for (int k = 0; k < text.length(); k++) {
            press.append(text.charAt(k));
        }
    }

    /** Types a text and carries it out. */
    static int runText(ErrataPress press, String text) {
        type(press, text);
        return press.run();
    }

    /** A press on which a text is carried out, in as few parts as the input holds. */
    static ErrataPress pressAfter(String text) {
        ErrataPress press = new ErrataPress();
        String rest = text;
        while (rest.length() > 60) {
            int end = rest.lastIndexOf(';', 60);
            runText(press, rest.substring(0, end));
            rest = rest.substring(end + 1);
        }
        runText(press, rest);
        return press;
    }

    /** A press whose house 0 would have this shame, of up to 100, behind an edition now; it has none yet. */
    static ErrataPress pressBeforeShame(int shame) {
        ErrataPress press = pressAfter("h99;s0=aaaaaaaa;s0=aaaaaaaa;s0=aaaaaaaa");
        int coins = 99;
        for (int k = 0; 5 * k < shame; k++) {
            for (; coins < 2 + k; coins++) {
                press.day();
            }
            press.set(k / 8, k % 8, (char) ('a' + Math.min(5, shame - 5 * k)));
            coins -= press.license(k / 8, k % 8);
        }
        return press;
    }

    /** A press whose house 0 has this shame; all that brought it, is shown on the first sheets of three. */
    static ErrataPress pressWithShame(int shame) {
        ErrataPress press = pressBeforeShame(shame);
        if (shame > 0) {
            press.edition();
        }
        return press;
    }

    /** A call on a press after a text throws, and changes neither what changes can change nor what can be undone. */
    static void dueThrowAlone(String text, Class<? extends RuntimeException> want, Consumer<ErrataPress> call) {
        ErrataPress press = pressAfter(text);
        String ahead = picture(press);
        int changes = press.account(14);
        dueThrow("a call behind " + text, want, () -> call.accept(press));
        due("what is there behind " + text, picture(press), ahead);
        due("the changes behind " + text, press.account(14), changes);
    }

    /** A call that is asked for a number. */
    interface Asked {
        int ask(int number);
    }

    /** A call throws for each number that is none of the first so many, and for none of these. */
    static void dueJust(int many, Class<? extends RuntimeException> thrown, Asked call) {
        int most = Integer.MAX_VALUE;
        int[] others = {most + 1, most + 2, -65536, -1, many, many + 1, 64, 65536, most - 1, most};
        for (int number : others) {
            dueThrow("the number " + number, thrown, () -> call.ask(number));
        }
        for (int number = 0; number < many; number++) {
            call.ask(number);
        }
    }

    static String lineOf(ErrataPress press, int sheet) {
        return written(press, press.line(sheet));
    }

    static String houseLineOf(ErrataPress press, int house) {
        return written(press, press.houseLine(house));
    }

    static String written(ErrataPress press, int length) {
        StringBuilder text = new StringBuilder();
        for (int k = 0; k < length; k++) {
            text.append(press.character(k));
        }
        dueThrow("a character behind the line", OUTSIDE, () -> press.character(length));
        return text.toString();
    }

    /** All that changes can change, as a text. */
    static String picture(ErrataPress press) {
        StringBuilder text = new StringBuilder();
        for (int house = 0; house < press.account(0); house++) {
            text.append(houseLineOf(press, house)).append(' ').append(press.houseOf(house, 6)).append('\n');
        }
        for (int sheet = 0; sheet < press.account(1); sheet++) {
            text.append(lineOf(press, sheet)).append(' ');
            for (int place = 0; place < press.sheetOf(sheet, 1); place++) {
                text.append(press.letterAt(sheet, place, true)).append(press.laughing(sheet, place));
            }
            text.append('\n');
        }
        for (int what = 0; what <= 12; what++) {
            text.append(press.account(what)).append(' ');
        }
        return text.toString();
    }

    static final Class<IndexOutOfBoundsException> OUTSIDE = IndexOutOfBoundsException.class;
    static final Class<IllegalArgumentException> ILLEGAL = IllegalArgumentException.class;
    static final Class<IllegalStateException> STATE = IllegalStateException.class;
    static final Class<ArithmeticException> ARITHMETIC = ArithmeticException.class;
    static final Class<UnsupportedOperationException> REFUSED = UnsupportedOperationException.class;
    static final Class<java.util.NoSuchElementException> NO_ELEMENT = java.util.NoSuchElementException.class;

    static void finish() {
        System.out.println(done + " answers looked at, " + wrong + " wrong");
        if (wrong != 0) {
            System.exit(1);
        }
    }
}
