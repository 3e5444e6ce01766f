import java.util.function.Supplier;

/** Holds the class against Model, call by call, in many runs of calls that a counter of its own draws. */
public final class ModelTest {
    private static final int RUNS = 3000;
    private static final int MOST_CALLS = 512;

    private static long seed;
    private static int calls;
    private static ErrataPress press;
    private static Model model;
    private static StringBuilder told;
    private static boolean isWrong;

    public static void main(String[] args) {
        int wrongRuns = 0;
        for (int run = 1; run <= RUNS && wrongRuns < 5; run++) {
            seed = run * 7919L;
            press = new ErrataPress();
            model = new Model();
            told = new StringBuilder();
            calls = 0;
            isWrong = false;
            begin(run);
            while (calls < MOST_CALLS && !isWrong) {
                drawCall();
            }
            if (isWrong) {
                wrongRuns++;
                System.out.println("run " + run + ":" + told);
            }
        }
        System.out.println(RUNS + " runs, " + wrongRuns + " wrong");
        if (wrongRuns != 0) {
            System.exit(1);
        }
    }

    private static int draw(int bound) {
        seed = seed * 6364136223846793005L + 1442695040888963407L;
        return (int) ((seed >>> 33) % bound);
    }

    private static boolean coin() {
        return draw(2) == 1;
    }

    private static <T> void hold(String call, Supplier<T> got, Supplier<T> want) {
        if (isWrong || calls >= MOST_CALLS) {
            return;
        }
        calls++;
        String answer = outcome(got);
        String due = outcome(want);
        told.append(' ').append(call).append('=').append(answer);
        if (!answer.equals(due)) {
            told.append(" DUE ").append(due);
            isWrong = true;
        }
    }

    private static <T> String outcome(Supplier<T> call) {
        try {
            return String.valueOf(call.get());
        } catch (RuntimeException e) {
            return "throws." + e.getClass().getSimpleName();
        }
    }

    /** Most runs begin with houses, sheets and readers, so that there is something to do. */
    private static void begin(int run) {
        for (int k = 0; k < run % 5; k++) {
            callHouse(run % 3 == 0 ? 99 : draw(100));
        }
        for (int k = 0; k < run % 7; k++) {
            callSheet(draw(4), word());
        }
        for (int k = 0; k < run % 6; k++) {
            callReader(draw(2), 1 + draw(6));
        }
        for (int k = 0; k < run % 23; k++) {
            callSet(draw(7), draw(6), (char) ('a' + draw(6)));
        }
    }

    private static int word() {
        int word = 0;
        int letters = draw(12) == 0 ? draw(10) : 3 + draw(6);
        for (int k = 0; k < letters; k++) {
            word = word * 10 + (draw(60) == 0 ? draw(10) : 1 + draw(6));
        }
        return draw(40) == 0 ? -word : word;
    }

    private static int sheet() {
        return draw(30) == 0 ? draw(12) - 2 : draw(Math.max(1, model.account(1)));
    }

    private static int house() {
        return draw(30) == 0 ? draw(8) - 2 : draw(Math.max(1, model.account(0)));
    }

    private static int place() {
        return draw(30) == 0 ? draw(12) - 2 : draw(4 + draw(5));
    }

    private static char letter() {
        return draw(30) == 0 ? (char) (draw(200)) : (char) ('a' + draw(6));
    }

    private static void callHouse(int coins) {
        hold("house(" + coins + ")", () -> press.house(coins), () -> model.house(coins));
    }

    private static void callSheet(int house, int word) {
        hold("sheet(" + house + "," + word + ")", () -> press.sheet(house, word), () -> model.sheet(house, word));
    }

    private static void callReader(int kind, int taste) {
        hold("reader(" + kind + "," + taste + ")", () -> press.reader(kind, taste), () -> model.reader(kind, taste));
    }

    private static void callSet(int sheet, int place, char letter) {
        hold("set(" + sheet + "," + place + "," + letter + ")", () -> press.set(sheet, place, letter), () -> model.set(sheet, place, letter));
    }

    private static void drawCall() {
        int kind = draw(100);
        if (kind < 45) {
            drawChange(draw(40));
        } else if (kind < 88) {
            drawQuestion(draw(30));
        } else if (kind < 93) {
            drawText();
        } else {
            drawStep(draw(12));
        }
    }

    private static void drawChange(int kind) {
        int sheet = sheet();
        int place = place();
        if (kind < 1) {
            callHouse(draw(10) == 0 ? draw(200) - 50 : draw(100));
        } else if (kind < 4) {
            callSheet(house(), word());
        } else if (kind < 5) {
            hold("take(" + sheet + ")", () -> press.take(sheet), () -> model.take(sheet));
        } else if (kind < 14) {
            callSet(sheet, place, letter());
        } else if (kind < 26) {
            hold("license(" + sheet + "," + place + ")", () -> press.license(sheet, place), () -> model.license(sheet, place));
        } else if (kind < 29) {
            hold("correct(" + sheet + "," + place + ")", () -> press.correct(sheet, place), () -> model.correct(sheet, place));
        } else if (kind < 30) {
            callReader(draw(20) == 0 ? draw(4) - 1 : draw(2), draw(20) == 0 ? draw(10) - 1 : 1 + draw(6));
        } else if (kind < 33) {
            hold("edition()", () -> press.edition(), () -> model.edition());
        } else {
            hold("day()", () -> press.day(), () -> model.day());
        }
    }

    private static void drawQuestion(int kind) {
        int house = house();
        int sheet = sheet();
        int place = place();
        int what = draw(17) - 1;
        boolean isOne = coin();
        switch (kind) {
            case 0, 1 -> hold("houseOf(" + house + "," + what / 2 + ")", () -> press.houseOf(house, what / 2), () -> model.houseOf(house, what / 2));
            case 2, 3 -> hold("sheetOf(" + sheet + "," + what / 2 + ")", () -> press.sheetOf(sheet, what / 2), () -> model.sheetOf(sheet, what / 2));
            case 4 -> hold("letterAt(" + sheet + "," + place + "," + isOne + ")", () -> press.letterAt(sheet, place, isOne), () -> model.letterAt(sheet, place, isOne));
            case 5 -> hold("markAt(" + sheet + "," + place + ")", () -> press.markAt(sheet, place), () -> model.markAt(sheet, place));
            case 6 -> hold("fine(" + sheet + "," + place + "," + isOne + ")", () -> press.fine(sheet, place, isOne), () -> model.fine(sheet, place));
            case 7 -> hold("fines(" + sheet + "," + isOne + ")", () -> press.fines(sheet, isOne), () -> model.fines(sheet));
            case 8 -> hold("canMend(" + sheet + ")", () -> press.canMend(sheet), () -> model.canMend(sheet));
            case 9 -> hold("laughing(" + sheet + "," + place + ")", () -> press.laughing(sheet, place), () -> model.laughing(sheet, place));
            case 10, 11 -> hold("bargain(" + isOne + ")", () -> press.bargain(isOne), () -> model.bargain(isOne));
            case 12 -> hold("wouldShame(" + house + ")", () -> press.wouldShame(house), () -> model.wouldShame(house));
            case 13 -> hold("wouldLaugh(" + isOne + ")", () -> press.wouldLaugh(isOne), () -> model.wouldLaugh());
            case 14, 15 -> hold("nearest(" + sheet + ")", () -> press.nearest(sheet), () -> model.nearest(sheet));
            case 16 -> hold("calmIn(" + house + ")", () -> press.calmIn(house), () -> model.calmIn(house));
            case 17 -> hold("ashamed(" + house + ")", () -> press.ashamed(house), () -> model.ashamed(house));
            case 18, 19 -> hold("worst(" + sheet + ")", () -> press.worst(sheet), () -> model.worst(sheet));
            case 20 -> hold("line(" + sheet + ")", () -> press.line(sheet), () -> model.line(sheet));
            case 21 -> hold("houseLine(" + house + ")", () -> press.houseLine(house), () -> model.houseLine(house));
            case 22, 23 -> hold("character(" + what + ")", () -> press.character(what), () -> model.character(what));
            case 24 -> hold("errorPosition()", () -> press.errorPosition(), () -> model.errorPosition());
            case 25 -> hold("refusal(false," + isOne + ")", () -> press.refusal(false, isOne), () -> model.refusal(false, isOne));
            case 26 -> hold("refusal(true," + isOne + ")", () -> press.refusal(true, isOne), () -> model.refusal(true, isOne));
            case 27 -> hold("account(" + what + ")", () -> press.account(what), () -> model.account(what));
            case 28 -> hold("meanShame()", () -> press.meanShame(), () -> model.meanShame());
            default -> hold("errorShare()", () -> press.errorShare(), () -> model.errorShare());
        }
    }

    private static void drawStep(int kind) {
        if (kind < 6) {
            hold("undo()", () -> press.undo(), () -> model.undo());
        } else if (kind < 8) {
            hold("save()", () -> press.save(), () -> model.save());
        } else if (kind < 9) {
            hold("restore()", () -> press.restore(), () -> model.restore());
        } else if (kind < 10) {
            hold("run()", () -> press.run(), () -> model.run());
        } else {
            hold("isWell()", () -> press.isWell(), () -> true);
        }
    }

    private static void drawText() {
        int orders = 1 + draw(draw(6) == 0 ? 20 : 5);
        StringBuilder text = new StringBuilder();
        for (int k = 0; k < orders; k++) {
            text.append(k > 0 ? ";" : "").append(order());
        }
        if (draw(3) == 0) {
            spoil(text);
        }
        for (int k = 0; k < text.length(); k++) {
            char c = text.charAt(k);
            hold("append(" + c + ")", () -> press.append(c), () -> model.append(c));
        }
        if (draw(10) > 0) {
            hold("run()", () -> press.run(), () -> model.run());
            hold("errorPosition()", () -> press.errorPosition(), () -> model.errorPosition());
        }
    }

    private static void spoil(StringBuilder text) {
        int at = draw(text.length());
        char sign = "hsmlcrxed0123456789abcdef;=A ".charAt(draw(29));
        switch (draw(4)) {
            case 0 -> text.setCharAt(at, sign);
            case 1 -> text.insert(at, sign);
            case 2 -> text.deleteCharAt(at);
            default -> text.setLength(at);
        }
    }

    private static String order() {
        int sheet = Math.floorMod(sheet(), 10);
        int place = Math.floorMod(place(), 10);
        return switch (draw(14)) {
            case 0 -> "h" + draw(100);
            case 1 -> "s" + Math.floorMod(house(), 10) + "=" + "cabbafedeca".substring(draw(4), 7 + draw(5));
            case 2, 3, 4, 5 -> "m" + sheet + place + (char) ('a' + draw(6));
            case 6, 7, 8 -> "l" + sheet + place;
            case 9 -> "c" + sheet + place;
            case 10 -> "r" + draw(2) + (1 + draw(6));
            case 11 -> draw(4) == 0 ? "x" + sheet : "d";
            case 12 -> "e";
            default -> "d";
        };
    }
}
