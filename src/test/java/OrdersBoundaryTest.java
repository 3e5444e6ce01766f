/** The boundaries that promises 24 to 32 name: a test for each, whose remark tells the sentence that it holds. */
public final class OrdersBoundaryTest {
    public static void main(String[] args) {
        Check.eachTest(OrdersBoundaryTest.class);
        Check.finish();
    }

    // Promises 24 and 25

    private static void dueHouses(ErrataPress press, int... houses) {
        for (int place = 0; place < houses.length; place++) {
            Check.due("the house at " + place, press.ashamed(place), houses[place]);
        }
        Check.dueJust(houses.length, Check.NO_ELEMENT, press::ashamed);
    }

    /** Promise 24: "Returns a house by its shame: the most first, of several the one with fewer coins, then the lowest."
     */
    static void housesByShameThenCoinsThenNumber() {
        dueHouses(Check.pressAfter("h5;h5;h5;h5"), 0, 1, 2, 3);
        dueHouses(Check.pressAfter("h5;h4;h5;h3"), 3, 1, 0, 2);
        dueHouses(Check.pressAfter("h0;h1;h0;h99"), 0, 2, 1, 3);
        ErrataPress press = Check.pressAfter("h9;h9;h9;h9;s1=aaa;s3=aaa;m00c;m10b;l00;l10;e");
        dueHouses(press, 1, 3, 0, 2);
        Check.runText(press, "m12b;l12;e");
        Check.due("the coins of 1", press.houseOf(1, 0), 7);
        Check.due("the coins of 3", press.houseOf(3, 0), 4);
        dueHouses(press, 3, 1, 0, 2);
        Check.runText(press, "d;d");
        dueHouses(press, 3, 1, 0, 2);
    }

    /** Promise 24: "the most first" */
    static void oneShameMoreIsFirst() {
        for (int shame = 19; shame <= 22; shame++) {
            ErrataPress press = Check.pressWithShame(shame);
            Check.runText(press, "h0;x0;x0;x0");
            dueHouses(press, 0, 1);
        }
        ErrataPress press = Check.pressAfter("h5;h99;s1=aaa;m00b;l00;e");
        dueHouses(press, 1, 0);
        press.day();
        dueHouses(press, 0, 1);
    }

    /** Promise 24: "place: the place, from 0" */
    static void placesOfHousesFrom0() {
        ErrataPress press = Check.pressAfter("h7");
        Check.due("the one house", press.ashamed(0), 0);
        Check.dueThrow("behind it", Check.NO_ELEMENT, () -> press.ashamed(1));
        Check.dueThrow("ahead of it", Check.NO_ELEMENT, () -> press.ashamed(-1));
        press.house(6);
        Check.due("the first of two", press.ashamed(0), 1);
        Check.due("the last of two", press.ashamed(1), 0);
    }

    /** Promise 24: "Throws NoSuchElementException if there is no such place" */
    static void housesAtNoPlace() {
        ErrataPress press = new ErrataPress();
        for (int houses = 0; houses <= 4; houses++) {
            Check.dueJust(houses, Check.NO_ELEMENT, press::ashamed);
            if (houses < 4) {
                press.house(9);
            }
        }
    }

    private static void dueSheets(ErrataPress press, int... sheets) {
        for (int place = 0; place < sheets.length; place++) {
            Check.due("the sheet at " + place, press.worst(place), sheets[place]);
        }
        Check.dueJust(sheets.length, Check.NO_ELEMENT, press::worst);
    }

    /** Promise 25: "Returns a sheet by how bad its misprints are together: the worst first, of several the one with more
     * misprints, then the lowest." */
    static void sheetsByBadnessThenMisprintsThenNumber() {
        ErrataPress press = Check.pressAfter("h99;s0=aaa;s0=aaa;s0=aaa;s0=aaaaaaaa");
        dueSheets(press, 0, 1, 2, 3);
        press.set(2, 2, 'b');
        dueSheets(press, 2, 0, 1, 3);
        press.set(3, 7, 'c');
        dueSheets(press, 3, 2, 0, 1);
        press.set(1, 1, 'b');
        dueSheets(press, 3, 1, 2, 0);
        press.set(2, 0, 'b');
        dueSheets(press, 2, 3, 1, 0);
        press.set(1, 0, 'b');
        dueSheets(press, 1, 2, 3, 0);
        Check.runText(press, "m00f;l00;e");
        dueSheets(press, 0, 1, 2, 3);
        Check.runText(press, "m30b;m31b;m32b");
        dueSheets(press, 3, 0, 1, 2);
        press.take(3);
        dueSheets(press, 0, 1, 2);
    }

    /** Promise 25: "place: the place, from 0" */
    static void placesOfSheetsFrom0() {
        ErrataPress press = Check.pressAfter("h9;s0=aaa");
        Check.due("the one sheet", press.worst(0), 0);
        Check.dueThrow("behind it", Check.NO_ELEMENT, () -> press.worst(1));
        Check.dueThrow("ahead of it", Check.NO_ELEMENT, () -> press.worst(-1));
        Check.runText(press, "s0=aaa;m10b");
        Check.due("the first of two", press.worst(0), 1);
        Check.due("the last of two", press.worst(1), 0);
    }

    /** Promise 25: "Throws NoSuchElementException if there is no such place" */
    static void sheetsAtNoPlace() {
        ErrataPress press = Check.pressAfter("h9");
        for (int sheets = 0; sheets <= 8; sheets++) {
            Check.dueJust(sheets, Check.NO_ELEMENT, press::worst);
            if (sheets < 8) {
                press.sheet(0, 111);
            }
        }
    }

    // Promises 26 to 28

    /** Promise 26: "Writes the line of a sheet, in place of the line before." */
    static void linesInPlaceOfTheLineBefore() {
        ErrataPress press = Check.pressAfter("h9;s0=abcdefab;s0=abc;s0=fedc");
        Check.due("a long one", Check.lineOf(press, 0), "0:abcdefab");
        Check.due("a short one", Check.lineOf(press, 1), "0:abc");
        Check.due("one more", Check.lineOf(press, 2), "0:fedc");
        Check.due("a house's", Check.houseLineOf(press, 0), "0$9~0");
        Check.due("a sheet's", Check.lineOf(press, 0), "0:abcdefab");
        press.set(0, 0, 'f');
        Check.due("it is written when it is asked for", Check.written(press, 10), "0:abcdefab");
    }

    /** Promise 26: "Returns its length." */
    static void lengthsOfLinesFrom5To18() {
        ErrataPress press = Check.pressAfter("h99;s0=aaa;s0=aaaaaaaa");
        Check.due("the shortest", press.line(0), 5);
        Check.due("eight right letters", press.line(1), 10);
        for (int place = 0; place < 8; place++) {
            press.set(1, place, 'b');
            Check.due("a plain one more", press.line(1), 10 + place);
            press.license(1, place);
            Check.due("a licensed one more", press.line(1), 11 + place);
        }
        Check.due("the longest", Check.lineOf(press, 1), "0:B'B'B'B'B'B'B'B'");
        press.edition();
        Check.due("all are shown", press.line(1), 18);
        Check.due("its last sign", press.character(17), '!');
        press.correct(1, 7);
        Check.due("the last is right", Check.lineOf(press, 1), "0:B!B!B!B!B!B!B!a");
    }

    /** Promise 26: "Throws IndexOutOfBoundsException if there is no such sheet" */
    static void linesOfNoSheet() {
        ErrataPress press = new ErrataPress();
        Check.dueJust(0, Check.OUTSIDE, press::line);
        Check.runText(press, "h9;s0=abc;s0=abcd");
        Check.due("the second", press.line(1), 6);
        Check.dueThrow("a third", Check.OUTSIDE, () -> press.line(2));
        Check.due("the line stays", Check.written(press, 6), "0:abcd");
        Check.dueJust(2, Check.OUTSIDE, press::line);
        Check.runText(press, "s0=aaa;s0=aaa;s0=aaa;s0=aaa;s0=aaa;s0=aaa");
        Check.dueJust(8, Check.OUTSIDE, press::line);
    }

    /** Promise 27: "Writes the line of a house, in place of the line before." */
    static void houseLinesInPlaceOfTheLineBefore() {
        ErrataPress press = Check.pressAfter("h10;h9;s1=abc");
        Check.due("a sheet's", Check.lineOf(press, 0), "1:abc");
        Check.due("a house's", Check.houseLineOf(press, 0), "0$10~0");
        Check.due("another's, shorter", Check.houseLineOf(press, 1), "1$9~0");
        press.day();
        Check.due("it is written when it is asked for", Check.written(press, 5), "1$9~0");
        Check.due("anew", Check.houseLineOf(press, 1), "1$10~0");
    }

    /** Promise 27: "Returns its length." */
    static void lengthsOfHouseLinesFrom5To8() {
        ErrataPress press = Check.pressAfter("h0;h9;h10;h99");
        int[] due = {5, 5, 6, 6};
        for (int house = 0; house < 4; house++) {
            Check.due("the length", press.houseLine(house), due[house]);
        }
        Check.due("a shame of 9", Check.pressWithShame(9).houseLine(0), 6);
        Check.due("a shame of 10", Check.pressWithShame(10).houseLine(0), 7);
        Check.due("a shame of 20", Check.pressWithShame(20).houseLine(0), 7);
        ErrataPress ashamed = Check.pressWithShame(21);
        Check.due("a shame of 21", ashamed.houseLine(0), 8);
        Check.due("its last sign", ashamed.character(7), '*');
        ErrataPress most = Check.pressWithShame(100);
        for (int day = 0; day < 99; day++) {
            most.day();
        }
        Check.due("no shame is left", Check.houseLineOf(most, 0), "0$99~0");
    }

    /** Promise 27: "Throws IndexOutOfBoundsException if there is no such house" */
    static void linesOfNoHouse() {
        ErrataPress press = new ErrataPress();
        Check.dueJust(0, Check.OUTSIDE, press::houseLine);
        Check.runText(press, "h9;h8;h7");
        Check.due("the third", press.houseLine(2), 5);
        Check.dueThrow("a fourth", Check.OUTSIDE, () -> press.houseLine(3));
        Check.due("the line stays", Check.written(press, 5), "2$7~0");
        Check.dueJust(3, Check.OUTSIDE, press::houseLine);
        press.house(9);
        Check.dueJust(4, Check.OUTSIDE, press::houseLine);
    }

    /** Promise 28: "Returns a character of the line, which is empty at first." */
    static void theLineIsEmptyAtFirst() {
        ErrataPress press = new ErrataPress();
        Check.dueJust(0, Check.OUTSIDE, press::character);
        Check.runText(press, "h9;s0=abc");
        Check.dueJust(0, Check.OUTSIDE, press::character);
        Check.dueThrow("no sheet", Check.OUTSIDE, () -> press.line(1));
        Check.dueJust(0, Check.OUTSIDE, press::character);
        press.line(0);
        Check.due("the first", press.character(0), '0');
        Check.due("the last", press.character(4), 'c');
    }

    /** Promise 28: "index: the index, from 0" */
    static void indexesFrom0() {
        ErrataPress press = Check.pressAfter("h42;s0=abc");
        String line = "0$42~0";
        Check.due("the length", press.houseLine(0), line.length());
        for (int index = 0; index < line.length(); index++) {
            Check.due("the character at " + index, press.character(index), line.charAt(index));
        }
        Check.dueThrow("ahead of the first", Check.OUTSIDE, () -> press.character(-1));
        Check.dueThrow("behind the last", Check.OUTSIDE, () -> press.character(6));
    }

    /** Promise 28: "Throws IndexOutOfBoundsException if there is no such index" */
    static void charactersOfTheLineAlone() {
        ErrataPress press = Check.pressAfter("h99;s0=aaaaaaaa;m00b;l00");
        Check.dueJust(press.line(0), Check.OUTSIDE, press::character);
        Check.dueJust(press.houseLine(0), Check.OUTSIDE, press::character);
        Check.runText(press, "m01b;m02b;m03b;m04b;m05b;m06b;m07b");
        Check.runText(press, "l01;l02;l03;l04;l05;l06;l07");
        Check.due("the longest", press.line(0), 18);
        Check.dueJust(18, Check.OUTSIDE, press::character);
        Check.due("the one before", press.character(16), 'B');
        Check.due("the last", press.character(17), '\'');
        press.houseLine(0);
        Check.dueThrow("what stood in the line before", Check.OUTSIDE, () -> press.character(17));
    }

    // Promises 29 to 31

    /** Promise 29: "Returns the characters in the input then." */
    static void charactersInTheInput() {
        ErrataPress press = new ErrataPress();
        for (int k = 1; k <= 60; k++) {
            Check.due("the characters", press.append('d'), k);
            Check.due("the account", press.account(13), k);
        }
        Check.dueThrow("a text of d alone", Check.ILLEGAL, press::run);
        Check.due("the first again", press.append('d'), 1);
    }

    /** Promise 29: "Appends a character to the input." */
    static void anyCharacterIsAppended() {
        char[] signs = {0, ' ', '`', 127, 128, 255, 256, 'd' + 256, 65535};
        for (char sign : signs) {
            ErrataPress press = new ErrataPress();
            Check.type(press, "d;");
            Check.due("the characters", press.append(sign), 3);
            Check.dueThrow("the sign " + (int) sign, Check.ILLEGAL, press::run);
            Check.due("its place", press.errorPosition(), 2);
        }
    }

    /** Promise 29: "Throws IllegalStateException if the input contains 60 characters" */
    static void aSixtyFirstCharacter() {
        ErrataPress press = new ErrataPress();
        Check.type(press, "d;".repeat(28) + "h42");
        Check.due("the input", press.account(13), 59);
        Check.due("the sixtieth", press.append(';'), 60);
        Check.dueThrow("the sixty-first", Check.STATE, () -> press.append('d'));
        Check.dueThrow("once more", Check.STATE, () -> press.append('d'));
        Check.due("the input", press.account(13), 60);
        Check.dueThrow("the text", Check.ILLEGAL, press::run);
        Check.due("the error", press.errorPosition(), 60);
        Check.due("the orders of sixty", Check.runText(press, "d;".repeat(27) + "h1;h42"), 29);
        Check.due("its last house", press.houseOf(1, 0), 42);
    }

    /** Promise 30: "Carries out the text in the input, which is empty afterwards, also if an exception is thrown." */
    static void theInputIsEmptyAfterwards() {
        String[] texts = {"d", "e", "d;e", "x0", "d;x9", "", "d;", "q", "h123", "d;".repeat(30)};
        for (String text : texts) {
            ErrataPress press = new ErrataPress();
            Check.type(press, text);
            Check.due("the input", press.account(13), text.length());
            try {
                press.run();
            } catch (IllegalArgumentException | UnsupportedOperationException e) {
                // The input is looked at, whatever was thrown.
            }
            Check.due("the input behind " + text, press.account(13), 0);
            Check.due("the next text", Check.runText(press, "d;d"), 2);
        }
    }

    /** Promise 30: "Returns the number of orders." */
    static void numbersOfOrdersFrom1To30() {
        ErrataPress press = new ErrataPress();
        String text = "d";
        for (int orders = 1; orders <= 6; orders++) {
            Check.due("the orders", Check.runText(press, text), orders);
            text += ";d";
        }
        Check.due("the days", press.account(3), 21);
        Check.due("thirty", Check.runText(press, "d;".repeat(29) + "d"), 30);
        Check.due("the days", press.account(3), 51);
        Check.due("one change each", press.account(14), 7);
        Check.due("an undo of thirty", press.undo(), 6);
        Check.due("the days", press.account(3), 21);
    }

    /** Promise 30: "Throws IllegalArgumentException if the text has an error, or the method for an order would throw
     * another exception than UnsupportedOperationException" */
    static void textsThatFail() {
        String[] texts = {"", "d;", "q", "s1=abc", "s4=abc", "s9=abc", "m10a", "m03a", "m99f", "l10", "l03", "c10", "c03",
            "r21", "r91", "r00", "r07", "r19", "x1", "x9"};
        for (String text : texts) {
            Check.dueThrowAlone("h9;s0=abc", Check.ILLEGAL, press -> Check.runText(press, text));
        }
        Check.due("what just can be", Check.runText(Check.pressAfter("h9;s0=abc"), "s0=abc;m12f;l12;c12;r01;r16;x1"), 7);
        Check.dueThrowAlone("h9;s0=abc", Check.ILLEGAL, press -> Check.runText(press, "x0;x0"));
        Check.dueThrowAlone("h9;s0=abc", Check.ILLEGAL, press -> Check.runText(press, "h1;h1;h1;s4=abc"));
        Check.due("a house of the text", Check.runText(Check.pressAfter("h9;s0=abc"), "h1;h1;h1;s3=abc"), 4);
    }

    /** Promise 30: "if the text has no error, its position is -1" */
    static void noErrorInTextsThatCannotBe() {
        ErrataPress press = Check.pressAfter("h9;s0=abc");
        String[] texts = {"s9=abc", "m09a", "l09", "c90", "r21", "r00", "x9", "d;d;x1"};
        for (String text : texts) {
            Check.dueThrow("an error", Check.ILLEGAL, () -> Check.runText(press, "d;dq"));
            Check.due("its position", press.errorPosition(), 3);
            Check.dueThrow(text, Check.ILLEGAL, () -> Check.runText(press, text));
            Check.due("no position for " + text, press.errorPosition(), -1);
        }
        Check.dueThrow("an error", Check.ILLEGAL, () -> Check.runText(press, "q"));
        Check.dueThrow("what is refused", Check.REFUSED, () -> Check.runText(press, "e"));
        Check.due("no position", press.errorPosition(), -1);
    }

    /** Promise 30: "Throws UnsupportedOperationException if it is refused for reason 9; the reason is kept for refusal"
     */
    static void textsThatAreRefused() {
        Check.dueThrowAlone("h9;s0=abc", Check.REFUSED, press -> Check.runText(press, "d;x0;e"));
        Check.dueThrowAlone("h9;s0=abc", Check.REFUSED, press -> Check.runText(press, "h1;h1;h1;h1"));
        ErrataPress press = Check.pressAfter("h9;h9;h9;s0=abc");
        Check.due("the fourth house", Check.runText(press, "h9"), 1);
        Check.dueThrow("a fifth", Check.REFUSED, () -> Check.runText(press, "d;h9"));
        dueReasons(press, 9, 1, 1, 4);
        press.day();
        Check.dueThrow("a text with an error", Check.ILLEGAL, () -> Check.runText(press, "e;"));
        Check.dueThrow("a sheet of no house", Check.ILLEGAL, () -> Check.runText(press, "s9=abc;e"));
        dueReasons(press, 9, 1, 1, 4);
        Check.dueThrow("an edition", Check.REFUSED, () -> Check.runText(press, "e"));
        dueReasons(press, 9, 0, 8, 0);
    }

    private static void dueReasons(ErrataPress press, int reason, int detail, int reasonBehind, int detailBehind) {
        Check.due("the reason", press.refusal(false, false), reason);
        Check.due("its detail", press.refusal(false, true), detail);
        Check.due("the reason behind", press.refusal(true, false), reasonBehind);
        Check.due("its detail", press.refusal(true, true), detailBehind);
    }

    /** Promise 31: "Returns the error position, or -1 if that text had no error or run has not been called." */
    static void positionsFromMinus1() {
        ErrataPress press = new ErrataPress();
        Check.due("run has not been called", press.errorPosition(), -1);
        Check.type(press, "q");
        Check.due("nor now", press.errorPosition(), -1);
        Check.dueThrow("the text", Check.ILLEGAL, press::run);
        Check.due("the first character", press.errorPosition(), 0);
        Check.due("a text without error", Check.runText(press, "d"), 1);
        Check.due("none", press.errorPosition(), -1);
        Check.dueThrow("an empty text", Check.ILLEGAL, press::run);
        Check.due("it ends too early", press.errorPosition(), 0);
        Check.dueThrow("the longest text", Check.ILLEGAL, () -> Check.runText(press, "d;".repeat(29) + "dd"));
        Check.due("the last character", press.errorPosition(), 59);
        Check.dueThrow("the longest text", Check.ILLEGAL, () -> Check.runText(press, "d;".repeat(28) + "m00;"));
        Check.due("the last character", press.errorPosition(), 59);
        Check.dueThrow("the longest text", Check.ILLEGAL, () -> Check.runText(press, "d;".repeat(30)));
        Check.due("behind the last character", press.errorPosition(), 60);
    }

    /** Promise 31: "Returns the error position of the text of the latest call of run." */
    static void positionOfTheLatestRun() {
        ErrataPress press = Check.pressAfter("h9;s0=abc");
        Check.dueThrow("a text", Check.ILLEGAL, () -> Check.runText(press, "d;m0"));
        Check.dueThrow("a refused call", Check.REFUSED, press::edition);
        Check.type(press, "d;d;d;q");
        press.day();
        press.line(0);
        Check.due("of the latest run", press.errorPosition(), 4);
        Check.dueThrow("a text", Check.ILLEGAL, press::run);
        Check.due("of the latest run", press.errorPosition(), 6);
        Check.dueThrow("a text that is refused", Check.REFUSED, () -> Check.runText(press, "e"));
        Check.due("of the latest run", press.errorPosition(), -1);
    }

    // Promise 32

    /** Promise 32: "Returns the reason of the latest refusal, the one that stands behind it, or a detail." */
    static void theLatestRefusal() {
        ErrataPress press = Check.pressAfter("h1;s0=abc;m02f");
        Check.dueRefusal(press, 7, 1, () -> press.license(0, 2));
        Check.dueThrow("an order", Check.REFUSED, () -> Check.runText(press, "d;d;m02f;e"));
        dueReasons(press, 9, 2, 2, 2);
        Check.dueThrow("another", Check.REFUSED, () -> Check.runText(press, "d;l00"));
        dueReasons(press, 9, 1, 4, 0);
        Check.dueRefusal(press, 3, 2, () -> press.set(0, 2, 'c'));
        Check.dueRefusal(press, 8, 0, press::edition);
    }

    /** Promise 32: "Throws NoSuchElementException if nothing was refused, or none stands behind" */
    static void noReasons() {
        ErrataPress press = new ErrataPress();
        dueNoReason(press, false);
        dueNoReason(press, true);
        Check.dueThrow("no refusal", Check.ILLEGAL, () -> press.house(100));
        Check.dueThrow("no refusal", Check.OUTSIDE, () -> press.sheet(0, 123));
        Check.dueThrow("no refusal", Check.ILLEGAL, () -> Check.runText(press, "d;x0"));
        Check.dueThrow("no refusal", Check.STATE, press::undo);
        dueNoReason(press, false);
        dueNoReason(press, true);
        Check.dueThrow("a refusal", Check.REFUSED, press::edition);
        Check.due("its reason", press.refusal(false, false), 8);
        dueNoReason(press, true);
        Check.dueThrow("a refusal of an order", Check.REFUSED, () -> Check.runText(press, "e"));
        dueReasons(press, 9, 0, 8, 0);
        Check.dueThrow("a refusal", Check.REFUSED, press::edition);
        dueNoReason(press, true);
    }

    private static void dueNoReason(ErrataPress press, boolean isBehind) {
        Check.dueThrow("a reason", Check.NO_ELEMENT, () -> press.refusal(isBehind, false));
        Check.dueThrow("a detail", Check.NO_ELEMENT, () -> press.refusal(isBehind, true));
    }

    /** Promise 32: "isBehind: whether the one behind is told" */
    static void theOneBehind() {
        ErrataPress press = Check.pressAfter("h9;s0=abcdefab;m05a");
        Check.dueThrow("an order", Check.REFUSED, () -> Check.runText(press, "d;c04"));
        Check.due("the one", 10 * press.refusal(false, false) + press.refusal(false, true), 91);
        Check.due("the one behind", 10 * press.refusal(true, false) + press.refusal(true, true), 44);
        Check.dueThrow("a call", Check.REFUSED, () -> press.correct(0, 4));
        Check.due("the one", 10 * press.refusal(false, false) + press.refusal(false, true), 44);
        dueNoReason(press, true);
    }

    /** Promise 32: "true for the detail, false for the reason" */
    static void reasonsAndDetails() {
        ErrataPress press = Check.pressAfter("h9;s0=abcdefab;m07f;m06f;l07");
        Check.dueThrow("an order", Check.REFUSED, () -> Check.runText(press, "d;d;d;l07"));
        dueReasons(press, 9, 3, 5, 7);
        Check.dueRefusal(press, 5, 7, () -> press.license(0, 7));
        Check.dueRefusal(press, 2, 6, () -> press.set(0, 6, 'f'));
    }
}
