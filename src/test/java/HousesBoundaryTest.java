/** The boundaries that promises 1 to 14 name: a test for each, whose remark tells the sentence that it holds. */
public final class HousesBoundaryTest {
    private static final int LEAST = Integer.MIN_VALUE;
    private static final int MOST = Integer.MAX_VALUE;

    public static void main(String[] args) {
        Check.eachTest(HousesBoundaryTest.class);
        Check.finish();
    }

    /** Promise 1: "Creates a press without houses, sheets and readers, on the day 0." */
    static void newPressesAreEmpty() {
        ErrataPress press = new ErrataPress();
        for (int what = 0; what <= 14; what++) {
            Check.due("account " + what, press.account(what), 0);
        }
        Check.dueJust(0, Check.OUTSIDE, house -> press.houseOf(house, 0));
        Check.dueJust(0, Check.OUTSIDE, sheet -> press.sheetOf(sheet, 0));
        Check.due("the first house", press.house(9), 0);
        Check.due("the first sheet", press.sheet(0, 123), 0);
        Check.due("the first reader", press.reader(0, 1), 0);
        press.day();
        Check.due("the first day", press.account(3), 1);
        Check.due("another press has none", new ErrataPress().account(0), 0);
    }

    // Promise 2

    /** Promise 2: "Lets a house come." */
    static void aHouseComes() {
        ErrataPress press = new ErrataPress();
        press.house(7);
        Check.due("houses", press.account(0), 1);
        int[] due = {7, 0, 0, 0, 0, 2, 0};
        for (int what = 0; what <= 6; what++) {
            Check.due("the number " + what, press.houseOf(0, what), due[what]);
        }
        press.undo();
        Check.due("houses, undone", press.account(0), 0);
        press.house(8);
        Check.due("another one's coins", press.houseOf(0, 0), 8);
    }

    /** Promise 2: "Returns its number." */
    static void housesHaveNumbers() {
        ErrataPress press = new ErrataPress();
        for (int k = 0; k < 4; k++) {
            Check.due("the number", press.house(10 * k), k);
        }
        press.undo();
        Check.due("the number again", press.house(5), 3);
        Check.due("its coins", press.houseOf(3, 0), 5);
    }

    /** Promise 2: "Throws IllegalArgumentException if the coins are not from 0 to 99" */
    static void coinsAreFrom0To99() {
        for (int coins : new int[] {LEAST, -100, -99, -2, -1, 100, 101, 127, 256, 65536, MOST}) {
            Check.dueThrow(coins + " coins", Check.ILLEGAL, () -> new ErrataPress().house(coins));
        }
        for (int coins = 0; coins <= 99; coins++) {
            ErrataPress press = new ErrataPress();
            Check.due("the number", press.house(coins), 0);
            Check.due("the coins", press.houseOf(0, 0), coins);
        }
        Check.dueThrowAlone("h9", Check.ILLEGAL, press -> press.house(100));
        Check.dueThrowAlone("h9", Check.ILLEGAL, press -> press.house(-1));
    }

    /** Promise 2: "Throws UnsupportedOperationException if it is refused for reason 1; the reason is kept for refusal"
     */
    static void aFifthHouseIsRefused() {
        ErrataPress press = Check.pressAfter("h1;h2;h3");
        Check.due("the fourth", press.house(4), 3);
        Check.dueRefusal(press, 1, 4, () -> press.house(0));
        Check.dueRefusal(press, 1, 4, () -> press.house(99));
        Check.due("houses", press.account(0), 4);
        press.undo();
        Check.due("a fourth again", press.house(9), 3);
        Check.due("the reason is kept", press.refusal(false, true), 4);
        Check.dueThrowAlone("h1;h2;h3;h4", Check.REFUSED, full -> full.house(0));
    }

    // Promise 3

    /** Promise 3: "Lets a sheet come, on which the right letters are set." */
    static void aSheetComes() {
        ErrataPress press = Check.pressAfter("h9;h9");
        press.sheet(1, 61616161);
        Check.due("sheets", press.account(1), 1);
        int[] due = {1, 8, 0, 0, 0, 0};
        for (int what = 0; what <= 5; what++) {
            Check.due("the number " + what, press.sheetOf(0, what), due[what]);
        }
        Check.due("its line", Check.lineOf(press, 0), "1:fafafafa");
    }

    /** Promise 3: "Returns its number." */
    static void sheetsHaveNumbers() {
        ErrataPress press = Check.pressAfter("h9");
        for (int k = 0; k < 8; k++) {
            Check.due("the number", press.sheet(0, 111), k);
        }
        press.take(0);
        press.take(5);
        Check.due("behind two that went", press.sheet(0, 222), 6);
        Check.due("and one more", press.sheet(0, 333), 7);
    }

    /** Promise 3: "word: the right word, as its digits" */
    static void theFirstDigitIsTheFirstLetter() {
        ErrataPress press = Check.pressAfter("h9");
        press.sheet(0, 123);
        press.sheet(0, 12345666);
        Check.due("three digits", Check.lineOf(press, 0), "0:abc");
        Check.due("eight digits", Check.lineOf(press, 1), "0:abcdefff");
    }

    /** Promise 3: "Throws IndexOutOfBoundsException if there is no such house" */
    static void sheetsAreOfAHouse() {
        for (int houses = 0; houses <= 4; houses++) {
            ErrataPress press = new ErrataPress();
            for (int k = 0; k < houses; k++) {
                press.house(9);
            }
            Check.dueJust(houses, Check.OUTSIDE, house -> press.sheet(house, 123));
            Check.due("sheets", press.account(1), houses);
        }
        Check.dueThrowAlone("h9", Check.OUTSIDE, press -> press.sheet(1, 123));
    }

    /** Promise 3: "Throws IllegalArgumentException if the word does not have 3 to 8 digits, all from 1 to 6" */
    static void wordsHave3To8DigitsFrom1To6() {
        for (int from = -200; from < 2400; from += 200) {
            dueWords(from, from + 199);
        }
        for (int word : new int[] {6666, 11111, 66666, 111111, 666666, 1111111, 6666666, 11111111, 66666666}) {
            dueWords(word - 11, word + 11);
        }
        ErrataPress press = Check.pressAfter("h9");
        for (int word : new int[] {111111111, 123456123, 666666666, 1111111111, 1666666666, MOST, LEAST, LEAST + 1}) {
            dueWord(press, word);
            dueWord(press, -word);
        }
    }

    private static void dueWords(int least, int most) {
        ErrataPress press = Check.pressAfter("h9");
        for (int word = least; word <= most; word++) {
            dueWord(press, word);
        }
    }

    private static void dueWord(ErrataPress press, int word) {
        if (String.valueOf(word).matches("[1-6]{3,8}")) {
            Check.due("the word " + word, press.sheet(0, word), 0);
            press.take(0);
        } else {
            Check.dueThrow("the word " + word, Check.ILLEGAL, () -> press.sheet(0, word));
        }
    }

    /** Promise 3: "all from 1 to 6" */
    static void eachDigitIsFrom1To6() {
        for (int letters = 3; letters <= 8; letters++) {
            for (int place = 0; place < letters; place++) {
                ErrataPress press = Check.pressAfter("h9");
                String ahead = "3".repeat(place);
                String behind = "3".repeat(letters - place - 1);
                for (int digit = place == 0 ? 1 : 0; digit <= 9; digit++) {
                    int word = Integer.parseInt(ahead + digit + behind);
                    if (digit >= 1 && digit <= 6) {
                        press.sheet(0, word);
                        press.take(0);
                    } else {
                        Check.dueThrow("the word " + word, Check.ILLEGAL, () -> press.sheet(0, word));
                    }
                }
            }
        }
    }

    /** Promise 3: "Throws UnsupportedOperationException if it is refused for reason 1; the reason is kept for refusal"
     */
    static void aNinthSheetIsRefused() {
        ErrataPress press = Check.pressAfter("h1;s0=aaa;s0=aaa;s0=aaa;s0=aaa;s0=aaa;s0=aaa;s0=aaa");
        Check.due("the eighth", press.sheet(0, 123), 7);
        Check.dueRefusal(press, 1, 8, () -> press.sheet(0, 123));
        Check.due("sheets", press.account(1), 8);
        press.take(3);
        Check.due("an eighth again", press.sheet(0, 123), 7);
        Check.dueRefusal(press, 1, 8, () -> press.sheet(0, 66666666));
    }

    // Promise 4

    /** Promise 4: "Takes a sheet away." */
    static void aSheetGoes() {
        for (int gone = 0; gone < 3; gone++) {
            ErrataPress press = Check.pressAfter("h99;s0=aaaa;s0=bbb;s0=ccccc;m03f;m10f;m24f;l03;l10;e;l24");
            String[] lines = {"0:aaaF!", "0:F!bb", "0:ccccF'"};
            press.take(gone);
            Check.due("the first line", Check.lineOf(press, 0), lines[gone == 0 ? 1 : 0]);
            Check.due("the second line", Check.lineOf(press, 1), lines[gone == 2 ? 1 : 2]);
            Check.dueThrow("the third", Check.OUTSIDE, () -> press.line(2));
            Check.due("the licensed ones", press.houseOf(0, 4), 2);
            Check.due("the shame stays", press.houseOf(0, 1), 9);
        }
    }

    /** Promise 4: "Takes a sheet away." */
    static void itsMisprintsGoWithIt() {
        ErrataPress press = Check.pressAfter("h99;h99;r11;s0=aaaa;s1=aaaa;m00f;m10f;m11f;m12e;l00;l10;l11");
        press.take(1);
        Check.due("misprints", press.account(5) * 10 + press.account(6), 11);
        Check.due("of its house", press.houseOf(1, 3) + press.houseOf(1, 4), 0);
        Check.due("what a licence costs its house", press.houseOf(1, 5), 2);
        Check.due("the shame to come", press.wouldShame(1), 0);
        Check.due("the laughs to come", press.wouldLaugh(false) * 10 + press.wouldLaugh(true), 11);
        Check.due("the laughs", press.edition(), 1);
        Check.due("printed", press.account(8), 1);
        Check.due("the shame of its house", press.houseOf(1, 1), 0);
        Check.dueThrow("a bargain", Check.NO_ELEMENT, () -> press.bargain(false));
        Check.due("the share", (double) press.errorShare(), 0.25);
        Check.due("all is well", press.isWell(), true);
    }

    /** Promise 4: "Takes a sheet away." */
    static void aShortSheetInItsPlace() {
        ErrataPress press = Check.pressAfter("h99;r11;s0=aaaaaaaa;m02f;m03f;m04f;m05f;m06f;m07f;l03;l05;e;l04");
        press.take(0);
        press.sheet(0, 222);
        Check.due("its line", Check.lineOf(press, 0), "0:bbb");
        for (int what = 2; what <= 5; what++) {
            Check.due("its number " + what, press.sheetOf(0, what), 0);
        }
        Check.due("its fines", press.fines(0, false) + press.fines(0, true), 0);
        Check.due("no shame is to come", press.wouldShame(0), 10);
        Check.due("no laughs are to come", press.wouldLaugh(false) + press.wouldLaugh(true), 0);
        Check.dueRefusal(press, 8, 1, press::edition);
        Check.due("a misprint of its own", press.set(0, 2, 'c') + press.license(0, 2), 1 + 2);
        Check.due("its laugh", press.edition(), 1);
        Check.due("printed", press.account(8), 3);
        Check.due("all is well", press.isWell(), true);
    }

    /** Promise 4: "Returns how many sheets there are then." */
    static void howManySheetsThereAreThen() {
        ErrataPress press = Check.pressAfter("h1;s0=aaa;s0=aaa;s0=aaa;s0=aaa;s0=aaa;s0=aaa;s0=aaa;s0=aaa");
        int[] gone = {7, 0, 3, 4, 0, 1, 1, 0};
        for (int k = 0; k < 8; k++) {
            Check.due("sheets", press.take(gone[k]), 7 - k);
            Check.due("the account", press.account(1), 7 - k);
        }
    }

    /** Promise 4: "Throws IndexOutOfBoundsException if there is no such sheet" */
    static void takesJustSheets() {
        for (int sheets = 0; sheets <= 8; sheets++) {
            ErrataPress press = new ErrataPress();
            press.house(9);
            for (int k = 0; k < sheets; k++) {
                press.sheet(0, 111);
            }
            Check.dueJust(sheets, Check.OUTSIDE, sheet -> press.take(sheet) + press.sheet(0, 111));
            Check.due("sheets", press.account(1), sheets);
        }
        Check.dueThrowAlone("h9;s0=abc", Check.OUTSIDE, press -> press.take(1));
        Check.dueThrowAlone("h9;s0=abc", Check.OUTSIDE, press -> press.take(-1));
    }

    // Promise 5

    /** Promise 5: "Sets a wrong letter." */
    static void aWrongLetterIsSet() {
        ErrataPress press = Check.pressAfter("h9;s0=abcdef;s0=fedcba");
        press.set(0, 0, 'b');
        press.set(0, 5, 'a');
        press.set(1, 2, 'f');
        Check.due("sheet 0", Check.lineOf(press, 0), "0:BbcdeA");
        Check.due("sheet 1", Check.lineOf(press, 1), "0:feFcba");
        Check.due("it costs nothing", press.houseOf(0, 0), 9);
    }

    /** Promise 5: "Returns how many misprints the sheet has then." */
    static void howManyMisprintsTheSheetHasThen() {
        ErrataPress press = Check.pressAfter("h9;s0=aaaaaaaa;s0=aaa;m10b");
        for (int place = 0; place < 8; place++) {
            Check.due("misprints", press.set(0, place, 'b'), place + 1);
        }
        Check.due("another wrong letter", press.set(0, 7, 'c'), 8);
        press.correct(0, 3);
        Check.due("one less", press.set(0, 0, 'f'), 7);
        Check.due("the other sheet", press.set(1, 2, 'f'), 2);
    }

    /** Promise 5: "`place`: the place, from 0" */
    static void placesFrom0() {
        for (int letters = 3; letters <= 8; letters++) {
            ErrataPress press = Check.pressAfter("h9;s0=" + "aaaaaaaa".substring(0, letters));
            Check.dueJust(letters, Check.OUTSIDE, place -> press.set(0, place, 'b'));
            Check.due("misprints", press.sheetOf(0, 2), letters);
        }
    }

    /** Promise 5: "Throws IndexOutOfBoundsException if there is no such sheet or place" */
    static void setsAtSheetsAndPlaces() {
        ErrataPress press = Check.pressAfter("h9;s0=aaa;s0=aaaaa");
        Check.dueJust(2, Check.OUTSIDE, sheet -> press.set(sheet, 0, 'f'));
        Check.dueJust(3, Check.OUTSIDE, place -> press.set(0, place, 'e'));
        Check.dueJust(5, Check.OUTSIDE, place -> press.set(1, place, 'd'));
        Check.dueThrow("a sheet whose places would wrap around", Check.OUTSIDE, () -> press.set(1 << 29, 0, 'c'));
        Check.dueThrow("a place of the sheet behind", Check.OUTSIDE, () -> press.set(0, 8, 'c'));
        Check.dueThrow("a place of the sheet ahead", Check.OUTSIDE, () -> press.set(1, -8, 'c'));
        Check.dueThrowAlone("h9;s0=abc", Check.OUTSIDE, other -> other.set(0, 3, 'a'));
    }

    /** Promise 5: "letter: the letter, a to f" */
    static void lettersFromAToF() {
        ErrataPress press = Check.pressAfter("h9;s0=bbb;s0=eee");
        press.set(0, 0, 'a');
        press.set(0, 1, 'f');
        press.set(1, 1, 'a');
        press.set(1, 2, 'f');
        Check.due("a and f for b", Check.lineOf(press, 0), "0:AFb");
        Check.due("a and f for e", Check.lineOf(press, 1), "0:eAF");
        Check.dueThrow("one below", Check.ILLEGAL, () -> press.set(0, 0, (char) ('a' - 1)));
        Check.dueThrow("one above", Check.ILLEGAL, () -> press.set(0, 0, (char) ('f' + 1)));
        Check.dueThrow("a capital one", Check.ILLEGAL, () -> press.set(0, 0, 'B'));
    }

    /** Promise 5: "Throws IllegalArgumentException if it is no such letter" */
    static void setsLettersAToF() {
        for (int sign = 0; sign < 512; sign++) {
            ErrataPress press = Check.pressAfter("h9;s0=abc");
            char letter = (char) sign;
            if (letter < 'a' || letter > 'f') {
                Check.dueThrow("the sign " + sign, Check.ILLEGAL, () -> press.set(0, 0, letter));
            } else if (letter == 'a') {
                Check.due("a misprint", press.set(0, 1, letter), 1);
            } else {
                Check.due("a misprint", press.set(0, 0, letter), 1);
            }
        }
        Check.dueThrowAlone("h9;s0=abc", Check.ILLEGAL, press -> press.set(0, 0, '`'));
        Check.dueThrowAlone("h9;s0=abc", Check.ILLEGAL, press -> press.set(0, 2, 'g'));
        Check.dueThrowAlone("h9;s0=abc", Check.ILLEGAL, press -> press.set(0, 2, (char) 65535));
    }

    /** Promise 5: "Throws UnsupportedOperationException if it is refused for reason 2 or 3; the reason is kept for
     * refusal" */
    static void setsAreRefused() {
        String letters = "abcdef";
        for (int right = 1; right <= 6; right++) {
            ErrataPress press = Check.pressAfter("h9");
            press.sheet(0, 111 * right);
            int set = right == 6 ? 1 : right + 1;
            press.set(0, 1, letters.charAt(set - 1));
            for (int letter = 1; letter <= 6; letter++) {
                char asked = letters.charAt(letter - 1);
                if (letter == set || letter == right) {
                    Check.dueRefusal(press, letter == set ? 2 : 3, 1, () -> press.set(0, 1, asked));
                } else {
                    Check.due("misprints", press.set(0, 1, asked), 1);
                    press.undo();
                }
            }
            char own = letters.charAt(right - 1);
            Check.dueRefusal(press, 2, 2, () -> press.set(0, 2, own));
        }
        Check.dueThrowAlone("h9;s0=abc;m00b;l00", Check.REFUSED, press -> press.set(0, 0, 'a'));
        Check.dueThrowAlone("h9;s0=abc;m00b;l00;e", Check.REFUSED, press -> press.set(0, 0, 'b'));
    }

    // Promise 6

    /** Promise 6: "Licenses a misprint." */
    static void aMisprintIsLicensed() {
        ErrataPress press = Check.pressAfter("h9;h9;s1=abc;s0=abc;m02f;m12f");
        press.license(0, 2);
        Check.due("it is licensed", Check.lineOf(press, 0), "1:abF'");
        Check.due("the other is not", Check.lineOf(press, 1), "0:abF");
        Check.due("its house has paid", press.houseOf(1, 0), 7);
        Check.due("the other has not", press.houseOf(0, 0), 9);
        Check.due("what is paid for licences", press.account(10), 2);
    }

    /** Promise 6: "Returns what it costs." */
    static void whatALicenceCosts() {
        ErrataPress press = Check.pressAfter("h99;s0=aaaaaaaa;s0=aaa;m00b;m01b;m02b;m03b;m04b;m05b;m06b;m07b;m10b");
        int coins = 99;
        for (int licensed = 0; licensed < 8; licensed++) {
            Check.due("the cost told", press.houseOf(0, 5), 2 + licensed);
            Check.due("the cost", press.license(0, licensed), 2 + licensed);
            coins -= 2 + licensed;
            Check.due("the coins", press.houseOf(0, 0), coins);
        }
        Check.due("the ninth", press.license(1, 0), 10);
    }

    /** Promise 6: "Throws IndexOutOfBoundsException if there is no such sheet or place" */
    static void licensesAtSheetsAndPlaces() {
        ErrataPress press = Check.pressAfter("h99;s0=aaa;s0=aaaa;m00b;m10b;m01b;m02b;m11b;m12b;m13b");
        Check.dueJust(2, Check.OUTSIDE, sheet -> press.license(sheet, 0) + press.undo());
        Check.dueJust(3, Check.OUTSIDE, place -> press.license(0, place) + press.undo());
        Check.dueJust(4, Check.OUTSIDE, place -> press.license(1, place) + press.undo());
        Check.dueThrowAlone("h9;s0=abc;m00b", Check.OUTSIDE, other -> other.license(0, 3));
        Check.dueThrowAlone("h9;s0=abc;m00b", Check.OUTSIDE, other -> other.license(1, 0));
    }

    /** Promise 6: "Throws UnsupportedOperationException if it is refused for reason 4, 5, 6 or 7; the reason is kept
     * for refusal" */
    static void licencesAreRefused() {
        ErrataPress press = Check.pressAfter("h5;s0=abcd;m00b;m01c;m02d");
        Check.dueRefusal(press, 4, 3, () -> press.license(0, 3));
        Check.due("the first", press.license(0, 0), 2);
        Check.dueRefusal(press, 5, 0, () -> press.license(0, 0));
        Check.due("just enough coins", press.license(0, 1), 3);
        Check.dueRefusal(press, 7, 0, () -> press.license(0, 2));
        for (int coins = 1; coins <= 4; coins++) {
            int has = coins;
            press.day();
            if (coins < 4) {
                Check.dueRefusal(press, 7, has, () -> press.license(0, 2));
            }
        }
        Check.due("just enough coins again", press.license(0, 2), 4);
        Check.due("none is left", press.houseOf(0, 0), 0);
        Check.dueThrowAlone("h1;s0=abc;m00b", Check.REFUSED, other -> other.license(0, 0));
        Check.dueThrowAlone("h9;s0=abc;m00b;l00", Check.REFUSED, other -> other.license(0, 0));
    }

    /** Promise 6: "if it is refused for reason 4, 5, 6 or 7" */
    static void licencesOfAnAshamedHouseAreRefused() {
        ErrataPress press = Check.pressWithShame(21);
        Check.runText(press, "h9;s1=abc;m30f");
        press.set(1, 0, 'b');
        Check.dueRefusal(press, 6, 21, () -> press.license(1, 0));
        Check.dueRefusal(press, 4, 1, () -> press.license(1, 1));
        Check.dueRefusal(press, 5, 0, () -> press.license(0, 0));
        Check.due("another house is not ashamed", press.license(3, 0), 2);
        press.day();
        Check.due("nor is it, a day on", press.license(1, 0), 7);
    }

    // Promise 7

    /** Promise 7: "Corrects a misprint." */
    static void aMisprintIsCorrected() {
        ErrataPress press = Check.pressAfter("h99;h99;s1=abc;s0=abc;m00b;m02f;m12f;l02");
        press.correct(0, 2);
        Check.due("it is right", Check.lineOf(press, 0), "1:Bbc");
        Check.due("the other is not", Check.lineOf(press, 1), "0:abF");
        Check.due("its house has paid", press.houseOf(1, 0), 97 - 6);
        Check.due("the fines of its house", press.houseOf(1, 6), 6);
        Check.due("the other has not", press.houseOf(0, 0) - press.houseOf(0, 6), 99);
        Check.due("all fines", press.account(11), 6);
    }

    /** Promise 7: "Returns the fine." */
    static void whatACorrectionCosts() {
        ErrataPress least = Check.pressAfter("h2;s0=aaa;m00b");
        Check.due("the least fine", least.correct(0, 0), 2);
        ErrataPress most = Check.pressAfter("h18;s0=aaa;m00f;l00;e");
        Check.due("the highest fine", most.correct(0, 0), 16);
        Check.due("the coins", most.houseOf(0, 0), 0);
        Check.due("the fines", most.houseOf(0, 6), 16);
    }

    /** Promise 7: "Throws IndexOutOfBoundsException if there is no such sheet or place" */
    static void correctsAtSheetsAndPlaces() {
        ErrataPress press = Check.pressAfter("h99;s0=aaa;s0=aaaa;m00b;m10b;m01b;m02b;m11b;m12b;m13b");
        Check.dueJust(2, Check.OUTSIDE, sheet -> press.correct(sheet, 0) + press.undo());
        Check.dueJust(3, Check.OUTSIDE, place -> press.correct(0, place) + press.undo());
        Check.dueJust(4, Check.OUTSIDE, place -> press.correct(1, place) + press.undo());
        Check.dueThrowAlone("h9;s0=abc;m00b", Check.OUTSIDE, other -> other.correct(0, 3));
        Check.dueThrowAlone("h9;s0=abc;m00b", Check.OUTSIDE, other -> other.correct(-1, 0));
    }

    /** Promise 7: "Throws UnsupportedOperationException if it is refused for reason 4 or 7; the reason is kept for
     * refusal" */
    static void correctionsAreRefused() {
        ErrataPress press = Check.pressAfter("h3;s0=abcd;m00e;m01c;m02f");
        Check.dueRefusal(press, 4, 3, () -> press.correct(0, 3));
        Check.dueRefusal(press, 7, 3, () -> press.correct(0, 0));
        press.day();
        Check.dueRefusal(press, 7, 4, () -> press.correct(0, 0));
        press.day();
        Check.due("just enough coins", press.correct(0, 0), 5);
        Check.dueRefusal(press, 4, 0, () -> press.correct(0, 0));
        Check.dueRefusal(press, 7, 0, () -> press.correct(0, 1));
        Check.dueThrowAlone("h1;s0=abc;m00b", Check.REFUSED, other -> other.correct(0, 0));
        Check.dueThrowAlone("h1;s0=abc;m00b", Check.REFUSED, other -> other.correct(0, 1));
    }

    /** Promise 7: "if it is refused for reason 4 or 7" */
    static void ashamedHousesMayCorrect() {
        ErrataPress press = Check.pressWithShame(21);
        Check.due("the fine", press.correct(0, 0), 16);
        Check.due("the shame stays", press.houseOf(0, 1), 21);
    }

    // Promise 8

    /** Promise 8: "Lets a reader come." */
    static void aReaderComes() {
        ErrataPress press = Check.pressAfter("h9;s0=aaa;m00d");
        press.reader(0, 4);
        press.reader(1, 4);
        press.reader(1, 3);
        Check.due("readers", press.account(2), 3);
        Check.due("who laughs", press.laughing(0, 0), 1 + 4);
    }

    /** Promise 8: "Returns the number of the reader." */
    static void readersHaveNumbers() {
        ErrataPress press = new ErrataPress();
        for (int k = 0; k < 5; k++) {
            Check.due("the number", press.reader(k % 2, k + 1), k);
        }
        press.undo();
        Check.due("the number again", press.reader(0, 2), 4);
    }

    /** Promise 8: "Throws IllegalArgumentException if the kind is not 0 or 1, or the taste out of range" */
    static void kindsAndTastesInRange() {
        ErrataPress press = new ErrataPress();
        Check.dueJust(2, Check.ILLEGAL, kind -> press.reader(kind, 1) + press.undo());
        Check.dueJust(2, Check.ILLEGAL, kind -> press.reader(kind, 6) + press.undo());
        for (int kind = 0; kind <= 1; kind++) {
            int of = kind;
            Check.dueJust(6, Check.ILLEGAL, taste -> press.reader(of, taste + 1) + press.undo());
            Check.dueThrow("the taste -1", Check.ILLEGAL, () -> press.reader(of, -1));
        }
        Check.due("readers", press.account(2), 0);
        Check.dueThrowAlone("h9;r01", Check.ILLEGAL, other -> other.reader(2, 1));
        Check.dueThrowAlone("h9;r01", Check.ILLEGAL, other -> other.reader(0, 0));
        Check.dueThrowAlone("h9;r01", Check.ILLEGAL, other -> other.reader(1, 7));
    }

    /** Promise 8: "Throws UnsupportedOperationException if it is refused for reason 1; the reason is kept for refusal"
     */
    static void aSixthReaderIsRefused() {
        ErrataPress press = Check.pressAfter("r01;r11;r06;r16");
        Check.due("the fifth", press.reader(1, 3), 4);
        Check.dueRefusal(press, 1, 5, () -> press.reader(0, 1));
        Check.dueRefusal(press, 1, 5, () -> press.reader(1, 6));
        Check.due("readers", press.account(2), 5);
        press.undo();
        Check.due("a fifth again", press.reader(0, 1), 4);
    }

    // Promises 9 and 10

    /** Promise 9: "Prints an edition." */
    static void anEditionIsPrinted() {
        ErrataPress press = Check.pressAfter("h99;s0=aaa;s0=aaaaaaaa;m00b;m02c;m10d;m17e;l00;l02;l10;l17");
        press.edition();
        Check.due("the first sheet", Check.lineOf(press, 0), "0:B!aC!");
        Check.due("the second", Check.lineOf(press, 1), "0:D!aaaaaaE!");
        Check.due("editions", press.account(4), 1);
        Check.due("printed", press.account(8), 4);
        Check.due("the shame", press.houseOf(0, 1), 1 + 2 + 3 + 4);
    }

    /** Promise 9: "Returns how often readers laugh." */
    static void howOftenReadersLaugh() {
        ErrataPress press = Check.pressAfter("h99;s0=aaaaaa;m00f;m01e;m02f;m03f;m04f;l00;l01;l02;l03");
        int[] due = {0, 3, 7, 11, 14, 18};
        String[] readers = {"r06", "r11", "r14", "r15", "r14"};
        for (int k = 0; k <= 5; k++) {
            press.save();
            Check.due("laughs of " + k + " readers", press.edition(), due[k]);
            Check.due("laughs so far", press.account(9), due[k]);
            Check.due("the coins", press.houseOf(0, 0), Math.min(99, 85 + due[k]));
            press.restore();
            if (k < 5) {
                Check.runText(press, readers[k]);
            }
        }
    }

    /** Promise 9: "Throws UnsupportedOperationException if it is refused for reason 8; the reason is kept for refusal"
     */
    static void editionsAreRefused() {
        ErrataPress press = Check.pressAfter("h99;h99");
        Check.dueRefusal(press, 8, 0, press::edition);
        Check.runText(press, "s0=abc");
        Check.dueRefusal(press, 8, 0, press::edition);
        press.set(0, 2, 'f');
        Check.dueRefusal(press, 8, 0, press::edition);
        press.license(0, 2);
        press.edition();
        Check.dueRefusal(press, 8, 1, press::edition);
        Check.runText(press, "m00f;l00;m00e");
        Check.dueRefusal(press, 8, 1, press::edition);
        Check.runText(press, "s1=abc;m12f;l12;x1");
        Check.dueRefusal(press, 8, 1, press::edition);
        Check.runText(press, "s1=abc;m12f;l12");
        Check.due("no laughs, but an edition", press.edition(), 0);
        Check.dueRefusal(press, 8, 2, press::edition);
        Check.dueThrowAlone("h9;s0=abc;m00f;l00;e", Check.REFUSED, ErrataPress::edition);
    }

    /** Promise 10: "Lets a day go by." */
    static void aDayGoesBy() {
        ErrataPress press = Check.pressAfter("h97;h0;s0=aaa;m00c;l00;e");
        for (int day = 1; day <= 4; day++) {
            press.day();
            Check.due("the day", press.account(3), day);
            Check.due("the coins", press.houseOf(0, 0), Math.min(99, 95 + day));
            Check.due("the coins of the other", press.houseOf(1, 0), day);
            Check.due("the shame", press.houseOf(0, 1), Math.max(0, 2 - day));
            Check.due("the misprint is shown yet", press.markAt(0, 0), 3);
        }
    }

    /** Promise 10: "Returns how many houses are ashamed then." */
    static void howManyHousesAreAshamedThen() {
        Check.due("without houses", new ErrataPress().day(), 0);
        for (int shame = 20; shame <= 23; shame++) {
            ErrataPress press = Check.pressWithShame(shame);
            for (int left = shame - 1; left >= 19; left--) {
                Check.due("with a shame of " + left, press.day(), left > 20 ? 1 : 0);
            }
        }
        ErrataPress press = Check.pressAfter("h99;h99;h99;h99");
        for (int house = 0; house < 4; house++) {
            Check.runText(press, "s" + house + "=aaaaa");
            for (int place = 0; place < 5; place++) {
                press.set(house, place, 'f');
                press.license(house, place);
            }
        }
        press.edition();
        Check.due("all four", press.day(), 4);
        Check.runText(press, "d;d;d");
        Check.due("none of the four", press.day(), 0);
    }

    // Promises 11 and 12

    /** Promise 11: "0 for its coins, 1 for its shame, 2 for its sheets, 3 for its misprints, 4 for those that are
     * licensed, 5 for what a licence costs it now, 6 for the fines that it paid so far" */
    static void numbersOfAHouse() {
        ErrataPress press = Check.pressAfter("h50;h60;s0=aaaa;s1=aaaa;s0=aaa;m00f;m01e;m02d;m11b;m12b;m20c;l00;l01;e;l20");
        int[] due = {50 - 2 - 3 - 4, 9, 2, 4, 3, 5, 0};
        int[] dueOfOther = {60, 0, 1, 2, 0, 2, 0};
        for (int what = 0; what <= 6; what++) {
            Check.due("house 0, " + what, press.houseOf(0, what), due[what]);
            Check.due("house 1, " + what, press.houseOf(1, what), dueOfOther[what]);
        }
        press.correct(0, 0);
        press.correct(2, 0);
        press.correct(1, 1);
        int[] dueBehind = {41 - 16 - 5, 9, 2, 2, 1, 3, 21};
        int[] dueOfOtherBehind = {58, 0, 1, 1, 0, 2, 2};
        for (int what = 0; what <= 6; what++) {
            Check.due("house 0, corrected, " + what, press.houseOf(0, what), dueBehind[what]);
            Check.due("house 1, corrected, " + what, press.houseOf(1, what), dueOfOtherBehind[what]);
        }
    }

    /** Promise 11: "5 for what a licence costs it now" */
    static void whatALicenceCostsNow() {
        ErrataPress press = Check.pressWithShame(100);
        Check.due("with twenty licensed, though it may not", press.houseOf(0, 5), 22);
        Check.due("without coins", Check.pressAfter("h0").houseOf(0, 5), 2);
    }

    /** Promise 11: "Throws IndexOutOfBoundsException if there is no such house" */
    static void numbersOfNoHouse() {
        ErrataPress press = new ErrataPress();
        for (int houses = 0; houses <= 4; houses++) {
            for (int what : new int[] {0, 6, 7}) {
                Check.dueThrow("behind the last", Check.OUTSIDE, () -> press.houseOf(press.account(0), what));
                Check.dueThrow("ahead of the first", Check.OUTSIDE, () -> press.houseOf(-1, what));
            }
            Check.dueJust(houses, Check.OUTSIDE, house -> press.houseOf(house, 0));
            if (houses < 4) {
                press.house(9);
            }
        }
    }

    /** Promise 11: "Throws IllegalArgumentException if what is not from 0 to 6" */
    static void numbersFrom0To6() {
        ErrataPress press = Check.pressAfter("h9;h9");
        Check.dueJust(7, Check.ILLEGAL, what -> press.houseOf(0, what));
        Check.dueJust(7, Check.ILLEGAL, what -> press.houseOf(1, what));
    }

    /** Promise 12: "0 for its house, 1 for its letters, 2 for its misprints, 3 for those that are licensed, 4 for those
     * that are shown, 5 for how bad its misprints are together" */
    static void numbersOfASheet() {
        ErrataPress press = Check.pressAfter("h99;h99;s1=aaaaaaaa;s0=abc;m00f;m01e;m02d;m03c;m07b;l00;l01;l02;e;l07");
        int[] due = {1, 8, 5, 4, 3, 5 + 4 + 3 + 2 + 1};
        int[] dueOfOther = {0, 3, 0, 0, 0, 0};
        for (int what = 0; what <= 5; what++) {
            Check.due("sheet 0, " + what, press.sheetOf(0, what), due[what]);
            Check.due("sheet 1, " + what, press.sheetOf(1, what), dueOfOther[what]);
        }
    }

    /** Promise 12: "5 for how bad its misprints are together" */
    static void theWorstSheet() {
        ErrataPress press = Check.pressAfter("h9;s0=aaaaaaaa");
        for (int place = 0; place < 8; place++) {
            press.set(0, place, 'f');
            Check.due("how bad", press.sheetOf(0, 5), 5 * place + 5);
        }
    }

    /** Promise 12: "Throws IndexOutOfBoundsException if there is no such sheet" */
    static void numbersOfNoSheet() {
        ErrataPress press = Check.pressAfter("h9");
        for (int sheets = 0; sheets <= 8; sheets++) {
            for (int what : new int[] {0, 5, 6}) {
                Check.dueThrow("behind the last", Check.OUTSIDE, () -> press.sheetOf(press.account(1), what));
                Check.dueThrow("ahead of the first", Check.OUTSIDE, () -> press.sheetOf(-1, what));
            }
            Check.dueJust(sheets, Check.OUTSIDE, sheet -> press.sheetOf(sheet, 0));
            if (sheets < 8) {
                press.sheet(0, 111);
            }
        }
    }

    /** Promise 12: "Throws IllegalArgumentException if what is not from 0 to 5" */
    static void numbersFrom0To5() {
        ErrataPress press = Check.pressAfter("h9;s0=aaa;s0=aaa");
        Check.dueJust(6, Check.ILLEGAL, what -> press.sheetOf(0, what));
        Check.dueJust(6, Check.ILLEGAL, what -> press.sheetOf(1, what));
    }

    // Promises 13 and 14

    /** Promise 13: "whether the right letter is told, or the one that is set" */
    static void rightLettersAndThoseSet() {
        ErrataPress press = Check.pressAfter("h9;s0=abcdefab;s0=fed;m00f;m07a;m12f");
        String[] right = {"abcdefab", "fed"};
        String[] set = {"fbcdefaa", "fef"};
        for (int sheet = 0; sheet < 2; sheet++) {
            for (int place = 0; place < right[sheet].length(); place++) {
                Check.due("the right one", press.letterAt(sheet, place, true), right[sheet].charAt(place));
                Check.due("the one set", press.letterAt(sheet, place, false), set[sheet].charAt(place));
            }
        }
        press.correct(0, 0);
        Check.due("the one set, corrected", press.letterAt(0, 0, false), 'a');
    }

    /** Promise 13: "Throws IndexOutOfBoundsException if there is no such sheet or place" */
    static void lettersOfNoPlace() {
        ErrataPress press = Check.pressAfter("h9;s0=aaa;s0=abcdefab");
        for (boolean isRight : new boolean[] {true, false}) {
            Check.dueJust(2, Check.OUTSIDE, sheet -> press.letterAt(sheet, 0, isRight));
            Check.dueJust(3, Check.OUTSIDE, place -> press.letterAt(0, place, isRight));
            Check.dueJust(8, Check.OUTSIDE, place -> press.letterAt(1, place, isRight));
            Check.dueThrow("no sheet and no place", Check.OUTSIDE, () -> press.letterAt(2, 8, isRight));
        }
        Check.dueThrow("no sheet at all", Check.OUTSIDE, () -> new ErrataPress().letterAt(0, 0, true));
    }

    /** Promise 14: "Returns 0 for a right letter, 1 for a plain misprint, 2 for a licensed one that is not shown, 3 for
     * a shown one." */
    static void marksFrom0To3() {
        ErrataPress press = Check.pressAfter("h99;s0=abcd;s0=aaaaaaaa;m00f;m17f;l00;l17;e;m01f;m16f;l01;l16;m02f;m15f");
        for (int mark = 0; mark <= 3; mark++) {
            Check.due("the mark on sheet 0", press.markAt(0, 3 - mark), mark);
            Check.due("the mark on sheet 1", press.markAt(1, 4 + mark), mark);
        }
        Check.runText(press, "m00e;c01;c02;e;m16b");
        int[] due = {1, 0, 0, 0};
        for (int place = 0; place < 4; place++) {
            Check.due("the mark at " + place, press.markAt(0, place), due[place]);
        }
        Check.due("another letter for a shown one", press.markAt(1, 6), 1);
    }

    /** Promise 14: "Throws IndexOutOfBoundsException if there is no such sheet or place" */
    static void marksOfNoPlace() {
        ErrataPress press = Check.pressAfter("h9;s0=aaa;s0=abcdefab");
        Check.dueJust(2, Check.OUTSIDE, sheet -> press.markAt(sheet, 0));
        Check.dueJust(3, Check.OUTSIDE, place -> press.markAt(0, place));
        Check.dueJust(8, Check.OUTSIDE, place -> press.markAt(1, place));
        Check.dueThrow("no sheet at all", Check.OUTSIDE, () -> new ErrataPress().markAt(0, 0));
    }
}
