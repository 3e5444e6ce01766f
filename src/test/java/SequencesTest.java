import java.util.function.Supplier;

/**
 * Holds the class against Model in each sequence of up to three steps, out of a list, behind some beginnings: each step
 * answers alike, and so does each question that can be asked behind the last one. Where ModelTest draws, this leaves
 * no order of steps out.
 */
public final class SequencesTest {
    private static final String[] BEGINNINGS = {
        "",
        "h30;h99;s0=aaa;s1=abcd;r06;r11",
        "h99;s0=aaa;s0=aaa;m00f;m01f;m02f;m10f|l00;l01;l02;l10;e;m11b;m12b;r02;r11",
        "h2;h3;h4;h99;s3=aaa;s1=bbb;s2=ccc;s0=ddd;s3=eee;s3=fff|s1=abcabc;s0=cba;r06;r11;r02;r15;r13;m00f;m02b;m15b;m70f"
    };
    private static final String[] STEPS = {
        "h0", "h99", "s0=aaa", "s1=abcd", "m00b", "m01f", "m12f", "m00a", "l00", "l01", "l12", "c00", "c12", "r06", "r11",
        "x0", "e", "d", "run m00c;l00;e", "run m01b;l01;l01", "run d;x7;d;", "run", "undo", "save", "restore"
    };

    private static int wrong = 0;
    private static long answers = 0;
    private static int mostCalls = 0;

    private int calls = 0;
    private final ErrataPress press = new ErrataPress();
    private final Model model = new Model();
    private String told;

    private SequencesTest(String beginning) {
        told = beginning;
        for (String text : beginning.split("\\|")) {
            carryOut(text);
        }
    }

    public static void main(String[] args) {
        for (String beginning : BEGINNINGS) {
            for (int sequence = 0; sequence < STEPS.length * STEPS.length; sequence++) {
                play(beginning, sequence / STEPS.length, sequence % STEPS.length);
            }
        }
        for (int sequence = 0; sequence < STEPS.length * STEPS.length * STEPS.length; sequence++) {
            int first = sequence / STEPS.length / STEPS.length;
            play(BEGINNINGS[2], first, sequence / STEPS.length % STEPS.length, sequence % STEPS.length);
        }
        System.out.println(answers + " answers looked at, " + wrong + " wrong, at most " + mostCalls + " calls of one object");
        if (wrong != 0 || mostCalls > 512) {
            System.exit(1);
        }
    }

    private static void play(String beginning, int... steps) {
        if (wrong > 20) {
            return;
        }
        SequencesTest test = new SequencesTest(beginning);
        for (int step : steps) {
            test.take(STEPS[step]);
        }
        test.askAll();
        test.goBack();
        mostCalls = Math.max(mostCalls, test.calls);
    }

    private <T> void hold(String call, Supplier<T> got, Supplier<T> want) {
        answers++;
        calls++;
        Object answer = outcome(got);
        Object due = outcome(want);
        if (!answer.equals(due)) {
            wrong++;
            System.out.println(told + ": " + call + " answered " + answer + ", due is " + due);
        }
    }

    /** An answer, or the kind of what is thrown. */
    private static <T> Object outcome(Supplier<T> call) {
        try {
            return call.get();
        } catch (RuntimeException e) {
            return e.getClass();
        }
    }

    private void carryOut(String text) {
        for (char sign : text.toCharArray()) {
            hold("append", () -> press.append(sign), () -> model.append(sign));
        }
        hold("run", press::run, model::run);
    }

    private void take(String step) {
        told = told + " " + step;
        int first = step.length() > 1 ? step.charAt(1) - '0' : 0;
        int second = step.length() > 2 ? step.charAt(2) - '0' : 0;
        switch (step) {
            case "e" -> hold(step, press::edition, model::edition);
            case "d" -> hold(step, press::day, model::day);
            case "undo" -> hold(step, press::undo, model::undo);
            case "save" -> hold(step, press::save, model::save);
            case "restore" -> hold(step, press::restore, model::restore);
            case "h0" -> hold(step, () -> press.house(0), () -> model.house(0));
            case "h99" -> hold(step, () -> press.house(99), () -> model.house(99));
            case "s0=aaa" -> hold(step, () -> press.sheet(0, 111), () -> model.sheet(0, 111));
            case "s1=abcd" -> hold(step, () -> press.sheet(1, 1234), () -> model.sheet(1, 1234));
            default -> takeOther(step, first, second);
        }
    }

    private void takeOther(String step, int first, int second) {
        switch (step.substring(0, 1)) {
            case "m" -> hold(step, () -> press.set(first, second, step.charAt(3)), () -> model.set(first, second, step.charAt(3)));
            case "l" -> hold(step, () -> press.license(first, second), () -> model.license(first, second));
            case "c" -> hold(step, () -> press.correct(first, second), () -> model.correct(first, second));
            case "x" -> hold(step, () -> press.take(first), () -> model.take(first));
            default -> takeLong(step, first, second);
        }
    }

    private void takeLong(String step, int first, int second) {
        if (step.startsWith("run")) {
            carryOut(step.substring(3).trim());
        } else {
            hold(step, () -> press.reader(first, second), () -> model.reader(first, second));
        }
    }

    /** Undoes all that can be undone, and one more. */
    private void goBack() {
        while (model.account(14) > 0) {
            hold("undo", press::undo, model::undo);
            askAccounts();
        }
        hold("undo", press::undo, model::undo);
    }

    private void askAll() {
        askAccounts();
        for (int k = -1; k <= model.account(0); k++) {
            askOfHouse(k);
        }
        for (int k = -1; k <= model.account(1); k++) {
            askOfSheet(k);
        }
        for (int place = 0; place <= 2; place++) {
            askOfPlace(0, place);
            askOfPlace(model.account(1) - 1, place);
        }
        askOfPlace(1, -1);
        askOfPlace(1, 3);
        for (int k = 0; k < 4; k++) {
            boolean isOne = k % 2 == 1;
            boolean isBehind = k > 1;
            hold("refusal", () -> press.refusal(isBehind, isOne), () -> model.refusal(isBehind, isOne));
        }
        hold("bargain(false)", () -> press.bargain(false), () -> model.bargain(false));
        hold("bargain(true)", () -> press.bargain(true), () -> model.bargain(true));
        hold("wouldLaugh(false)", () -> press.wouldLaugh(false), model::wouldLaugh);
        hold("wouldLaugh(true)", () -> press.wouldLaugh(true), model::wouldLaugh);
        hold("errorPosition", press::errorPosition, model::errorPosition);
        hold("isWell", press::isWell, () -> true);
        hold("meanShame", press::meanShame, model::meanShame);
        hold("errorShare", press::errorShare, model::errorShare);
    }

    private void askAccounts() {
        for (int k = 0; k <= 14; k++) {
            int what = k;
            hold("account " + what, () -> press.account(what), () -> model.account(what));
        }
    }

    private void askOfHouse(int house) {
        for (int k = 0; k <= 6; k++) {
            int what = k;
            hold("houseOf", () -> press.houseOf(house, what), () -> model.houseOf(house, what));
        }
        hold("wouldShame", () -> press.wouldShame(house), () -> model.wouldShame(house));
        hold("calmIn", () -> press.calmIn(house), () -> model.calmIn(house));
        hold("ashamed", () -> press.ashamed(house), () -> model.ashamed(house));
        hold("houseLine", () -> press.houseLine(house), () -> model.houseLine(house));
        askLine(house == 0 ? 8 : 0);
    }

    private void askOfSheet(int sheet) {
        for (int k = 0; k <= 5; k++) {
            int what = k;
            hold("sheetOf", () -> press.sheetOf(sheet, what), () -> model.sheetOf(sheet, what));
        }
        hold("fines", () -> press.fines(sheet, false), () -> model.fines(sheet));
        hold("fines again", () -> press.fines(sheet, true), () -> model.fines(sheet));
        hold("canMend", () -> press.canMend(sheet), () -> model.canMend(sheet));
        hold("nearest", () -> press.nearest(sheet), () -> model.nearest(sheet));
        hold("worst", () -> press.worst(sheet), () -> model.worst(sheet));
        hold("line", () -> press.line(sheet), () -> model.line(sheet));
        askLine(sheet < 2 ? 8 : 0);
    }

    private void askLine(int most) {
        for (int k = 0; k < most; k++) {
            int index = k;
            hold("character", () -> press.character(index), () -> model.character(index));
        }
    }

    private void askOfPlace(int sheet, int place) {
        hold("letterAt, right", () -> press.letterAt(sheet, place, true), () -> model.letterAt(sheet, place, true));
        hold("letterAt, set", () -> press.letterAt(sheet, place, false), () -> model.letterAt(sheet, place, false));
        hold("markAt", () -> press.markAt(sheet, place), () -> model.markAt(sheet, place));
        hold("fine", () -> press.fine(sheet, place, false), () -> model.fine(sheet, place));
        hold("fine again", () -> press.fine(sheet, place, true), () -> model.fine(sheet, place));
        hold("laughing", () -> press.laughing(sheet, place), () -> model.laughing(sheet, place));
    }
}
