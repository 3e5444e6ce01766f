/**
 * The boundaries that the head of the document and its "Terms" name: a test for each, whose remark tells the sentence
 * that it holds.
 */
public final class TermsBoundaryTest {
    private static final String LETTERS = "abcdef";

    public static void main(String[] args) {
        Check.eachTest(TermsBoundaryTest.class);
        Check.finish();
    }

    /** What it is: "An object is used for at most 512 calls after it has been made" */
    static void the512thCallIsAnswered() {
        ErrataPress press = new ErrataPress();
        press.house(0);
        for (int day = 1; day <= 509; day++) {
            Check.due("the ashamed on day " + day, press.day(), 0);
        }
        Check.due("the undo, call 511", press.undo(), 7);
        Check.due("the day, call 512", press.account(3), 508);
    }

    // Numbers

    /** Terms: "All numbers are whole, but two; divisions are rounded down." */
    static void twoNumbersAreNotWhole() {
        ErrataPress press = Check.pressAfter("h9;h9;h9;h9;s0=aaa;m00b;l00;e");
        Check.due("the mean shame", press.meanShame(), 0.25);
        Check.due("the share", (double) press.errorShare(), (double) (1f / 3f));
    }

    /** Terms: "What is right is never printed." */
    static void rightLettersAreNeverPrinted() {
        ErrataPress press = Check.pressAfter("h99;s0=abc;s0=abc");
        Check.dueRefusal(press, 8, 0, press::edition);
        Check.runText(press, "m01a;l01;m11a;l11;c11;e");
        Check.due("printed", press.account(8), 1);
        Check.due("the sheet with a misprint", Check.lineOf(press, 0), "0:aA!c");
        Check.due("the sheet without", Check.lineOf(press, 1), "0:abc");
        Check.due("the shame", press.houseOf(0, 1), 1);
        press.correct(0, 1);
        Check.dueRefusal(press, 8, 1, press::edition);
        Check.due("printed", press.account(8), 1);
    }

    // Houses

    /** Terms: "At most 4 houses are there, numbered from 0, each with coins from 0 to 99, and shame from 0 to 99, at
     * first none." */
    static void fourHousesNumberedFrom0() {
        ErrataPress press = new ErrataPress();
        int[] coins = {0, 99, 1, 98};
        for (int k = 0; k < 4; k++) {
            Check.due("houses", press.account(0), k);
            Check.due("the number", press.house(coins[k]), k);
        }
        Check.dueRefusal(press, 1, 4, () -> press.house(0));
        Check.due("houses", press.account(0), 4);
        for (int k = 0; k < 4; k++) {
            Check.due("the coins", press.houseOf(k, 0), coins[k]);
            Check.due("the shame", press.houseOf(k, 1), 0);
        }
        Check.dueThrow("house 4", Check.OUTSIDE, () -> press.houseOf(4, 0));
        Check.dueThrow("house -1", Check.OUTSIDE, () -> press.houseOf(-1, 0));
    }

    /** Terms: "each with coins from 0 to 99" */
    static void coinsGoDownTo0() {
        ErrataPress press = Check.pressAfter("h4;s0=aaa;m00b;l00;m01b");
        Check.due("the coins", press.houseOf(0, 0), 2);
        press.correct(0, 1);
        Check.due("no coins", press.houseOf(0, 0), 0);
        press.set(0, 1, 'b');
        Check.dueRefusal(press, 7, 0, () -> press.correct(0, 1));
        Check.due("no coins", press.houseOf(0, 0), 0);
    }

    /** Terms: "What would be more than 99 is lost." */
    static void coinsOfDaysBeyond99AreLost() {
        ErrataPress press = Check.pressAfter("h97;h99;s0=aaa;m00b");
        int[] due = {98, 99, 99, 99};
        for (int coins : due) {
            press.day();
            Check.due("the coins", press.houseOf(0, 0), coins);
            Check.due("the coins of the other", press.houseOf(1, 0), 99);
        }
        press.license(0, 0);
        Check.due("99 less 2", press.houseOf(0, 0), 97);
    }

    /** Terms: "What would be more than 99 is lost." */
    static void coinsOfLaughsBeyond99AreLost() {
        int[] due = {97, 98, 99, 99, 99, 99};
        ErrataPress press = new ErrataPress();
        Check.runText(press, "h99;s0=aaa;m00f;l00");
        for (int readers = 0; readers <= 5; readers++) {
            press.save();
            Check.due("the laughs", press.edition(), readers);
            Check.due("the coins behind " + readers + " laughs", press.houseOf(0, 0), due[readers]);
            Check.due("the laughs so far", press.account(9), readers);
            press.restore();
            if (readers < 5) {
                press.reader(0, 6);
            }
        }
    }

    /** Terms: "What would be more than 99 is lost." */
    static void shameBeyond99IsLost() {
        for (int shame = 98; shame <= 100; shame++) {
            ErrataPress press = Check.pressWithShame(shame);
            int kept = shame == 98 ? 98 : 99;
            Check.due("the shame of " + shame, press.houseOf(0, 1), kept);
            press.day();
            Check.due("a day on", press.houseOf(0, 1), kept - 1);
        }
    }

    /** Terms: "A house with a shame of more than 20 is ashamed." */
    static void shameOfMoreThan20() {
        for (int shame = 19; shame <= 22; shame++) {
            ErrataPress press = Check.pressWithShame(shame);
            boolean isAshamed = shame > 20;
            Check.due("its line", Check.houseLineOf(press, 0).endsWith("~" + shame + (isAshamed ? "*" : "")), true);
            Check.due("the days till it is calm", press.calmIn(0) > 0, isAshamed);
            press.set(2, 0, 'b');
            if (isAshamed) {
                Check.dueRefusal(press, 6, shame, () -> press.license(2, 0));
            } else {
                Check.due("a licence", press.license(2, 0), press.houseOf(0, 4) + 1);
            }
            Check.due("the ashamed, a day on", press.day(), shame > 21 ? 1 : 0);
        }
    }

    // Sheets

    /** Terms: "At most 8 sheets are there, numbered from 0, each of a house, with a right word of 3 to 8 letters from
     * a to f." */
    static void eightSheetsNumberedFrom0() {
        ErrataPress press = Check.pressAfter("h9;h9;h9;h9");
        for (int k = 0; k < 8; k++) {
            Check.due("sheets", press.account(1), k);
            Check.due("the number", press.sheet(k % 4, 123), k);
            Check.due("its house", press.sheetOf(k, 0), k % 4);
        }
        Check.dueRefusal(press, 1, 8, () -> press.sheet(0, 123));
        Check.due("sheets", press.account(1), 8);
        Check.dueThrow("sheet 8", Check.OUTSIDE, () -> press.sheetOf(8, 0));
        Check.dueThrow("sheet -1", Check.OUTSIDE, () -> press.sheetOf(-1, 0));
        press.take(7);
        Check.due("one more can come then", press.sheet(0, 123), 7);
    }

    /** Terms: "At most 8 sheets are there, numbered from 0, each of a house, with a right word of 3 to 8 letters from a
     * to f." */
    static void eightSheetsOfEightLetters() {
        ErrataPress press = fullPress();
        int[] due = {4, 8, 1, 0, 0, 64, 16, 0, 0, 0, 56, 0, 340, 0, 8};
        int[] duePrinted = {4, 8, 1, 0, 1, 64, 16, 16, 16, 16, 56, 0, 356, 0, 8};
        for (int what = 0; what <= 14; what++) {
            Check.due("account " + what, press.account(what), due[what]);
        }
        Check.due("the laughs to come", press.wouldLaugh(false), 16);
        Check.due("the laughs to come, by readers", press.wouldLaugh(true), 16);
        for (int house = 0; house < 4; house++) {
            Check.due("the shame to come", press.wouldShame(house), 4);
        }
        Check.due("the laughs", press.edition(), 16);
        for (int what = 0; what <= 14; what++) {
            Check.due("account " + what + ", printed", press.account(what), duePrinted[what]);
        }
        dueFullSheets(press);
    }

    /** Eight sheets of eight misprints that are 1 bad, the first and the last on each are licensed. */
    private static ErrataPress fullPress() {
        ErrataPress press = Check.pressAfter("h99;h99;h99;h99;r11");
        for (int sheet = 0; sheet < 8; sheet++) {
            press.sheet(sheet % 4, 11111111);
        }
        for (int cell = 0; cell < 64; cell++) {
            press.set(cell / 8, cell % 8, 'b');
        }
        for (int sheet = 0; sheet < 8; sheet++) {
            press.license(sheet, 0);
            press.license(sheet, 7);
        }
        return press;
    }

    private static void dueFullSheets(ErrataPress press) {
        for (int sheet = 0; sheet < 8; sheet++) {
            Check.due("the line", Check.lineOf(press, sheet), sheet % 4 + ":B!BBBBBBB!");
            Check.due("the fines", press.fines(sheet, false), 6 * 2 + 2 * 8);
            Check.due("the fines, in thought", press.fines(sheet, true), 6 * 2 + 2 * 8);
            Check.due("how bad", press.sheetOf(sheet, 5), 8);
            Check.due("the nearest", press.nearest(sheet), 0);
            Check.due("the order", press.worst(sheet), sheet);
            Check.due("who laughs at its last", press.laughing(sheet, 7), 1);
        }
        for (int house = 0; house < 4; house++) {
            Check.due("the house", Check.houseLineOf(press, house), house + "$89~4");
            Check.due("its misprints", press.houseOf(house, 3) * 10 + press.houseOf(house, 4), 164);
        }
        Check.due("the share", (double) press.errorShare(), 1.0);
        Check.due("all is well", press.isWell(), true);
        Check.due("the bargain", press.bargain(false) * 10 + press.bargain(true), 1);
    }

    /** Terms: "with a right word of 3 to 8 letters from a to f" */
    static void wordsOf3To8Letters() {
        ErrataPress press = Check.pressAfter("h9");
        int word = 16;
        for (int letters = 3; letters <= 8; letters++) {
            word = word * 10 + 1;
            Check.due("the number", press.sheet(0, word), letters - 3);
            Check.due("the letters", press.sheetOf(letters - 3, 1), letters);
        }
        Check.dueThrow("two letters", Check.ILLEGAL, () -> press.sheet(0, 16));
        Check.dueThrow("nine letters", Check.ILLEGAL, () -> press.sheet(0, 161111111));
        Check.due("sheets", press.account(1), 6);
    }

    /** Terms: "A word is told as a number, whose digits are its letters, from 1 for a to 6 for f." */
    static void digitsFrom1To6AreLetters() {
        ErrataPress press = Check.pressAfter("h9");
        for (int digit = 0; digit <= 9; digit++) {
            int word = 111 + digit * 10 - 10;
            if (digit < 1 || digit > 6) {
                Check.dueThrow("the digit " + digit, Check.ILLEGAL, () -> press.sheet(0, word));
            } else {
                Check.due("the number", press.sheet(0, word), digit - 1);
                Check.due("the letter", press.letterAt(digit - 1, 1, true), LETTERS.charAt(digit - 1));
                Check.due("the letters around it", Check.lineOf(press, digit - 1),
                    "0:a" + LETTERS.charAt(digit - 1) + "a");
            }
        }
    }

    /** Terms: "At first the right letters are set." */
    static void rightLettersAreSetAtFirst() {
        ErrataPress press = Check.pressAfter("h9;s0=fedcba;s0=abcdefaf;x0;s0=abc");
        for (int sheet = 0; sheet < 2; sheet++) {
            for (int place = 0; place < press.sheetOf(sheet, 1); place++) {
                Check.due("the letter set", press.letterAt(sheet, place, false), press.letterAt(sheet, place, true));
                Check.due("the mark", press.markAt(sheet, place), 0);
            }
            Check.due("misprints", press.sheetOf(sheet, 2), 0);
        }
    }

    /** Terms: "When a sheet goes, the numbers of the later ones become 1 less." */
    static void laterSheetsBecome1Less() {
        for (int gone = 0; gone < 8; gone++) {
            ErrataPress press = Check.pressAfter("h9;h9;s1=aaa;s0=bbb;s1=ccc;s0=ddd;s1=eee;s0=fff;s1=abcd;s0=abc");
            Check.due("sheets", press.take(gone), 7);
            for (int k = 0; k < 7; k++) {
                int was = k < gone ? k : k + 1;
                Check.due("the house of " + k, press.sheetOf(k, 0), (was + 1) % 2);
                Check.due("the first letter of " + k, press.letterAt(k, 0, true), "abcdefaa".charAt(was));
                Check.due("the letters of " + k, press.sheetOf(k, 1), was == 6 ? 4 : 3);
            }
            Check.dueThrow("sheet 7", Check.OUTSIDE, () -> press.sheetOf(7, 0));
        }
    }

    // Misprints

    /** Terms: "At a place where another letter than the right one is set is a misprint; how bad it is, is how far both
     * letters are from one another." */
    static void howFarLettersAre() {
        for (int right = 1; right <= 6; right++) {
            ErrataPress press = new ErrataPress();
            press.house(9);
            press.sheet(0, 111 * right);
            Check.due("how bad a right letter is", press.sheetOf(0, 5) + press.markAt(0, 0), 0);
            for (int set = 1; set <= 6; set++) {
                if (set != right) {
                    press.set(0, 0, LETTERS.charAt(set - 1));
                    Check.due("how bad " + set + " for " + right + " is", press.sheetOf(0, 5), Math.abs(set - right));
                    Check.due("misprints", press.sheetOf(0, 2), 1);
                }
            }
        }
    }

    /** Terms: "A misprint is plain at first, and can be licensed; when it is printed in an edition, it is shown, and
     * licensed still." */
    static void plainThenLicensedThenShown() {
        ErrataPress press = Check.pressAfter("h99;s0=aaa");
        int[] licensed = {0, 0, 1, 1};
        for (int mark = 0; mark <= 3; mark++) {
            if (mark > 0) {
                Check.runText(press, mark == 1 ? "m00f" : mark == 2 ? "l00" : "e");
            }
            Check.due("the mark", press.markAt(0, 0), mark);
            Check.due("the licensed ones", press.sheetOf(0, 3), licensed[mark]);
            Check.due("the shown ones", press.sheetOf(0, 4), mark == 3 ? 1 : 0);
        }
        press.day();
        Check.dueRefusal(press, 8, 1, press::edition);
        Check.due("it is shown yet", press.markAt(0, 0), 3);
    }

    /** Terms: "If another wrong letter is set in its place, this is a plain misprint." */
    static void anotherWrongLetterIsPlain() {
        for (String text : new String[] {"m00f", "m00f;l00", "m00f;l00;e"}) {
            ErrataPress press = Check.pressAfter("h99;s0=aaa;" + text);
            Check.due("misprints", press.set(0, 0, 'e'), 1);
            Check.due("the mark", press.markAt(0, 0), 1);
            Check.due("the licensed ones", press.account(6) + press.account(7), 0);
            Check.due("the fine", press.fine(0, 0, false), 5);
            Check.due("the licence", press.license(0, 0), 2);
        }
    }

    // Licences and fines

    /** Terms: "A licence costs 2 coins and 1 more for each misprint of the house that is licensed, on all its sheets."
     */
    static void licencesCost1MoreForEach() {
        ErrataPress press = Check.pressAfter("h99;h99;s0=aaa;s1=aaa;s0=aaa;m00f;m01f;m02f;m10f;m11f;m20f;m21f");
        Check.due("the first", press.license(0, 0), 2);
        Check.due("its coins", press.houseOf(0, 0), 97);
        Check.due("the first of the other", press.license(1, 1), 2);
        Check.due("the second, on another sheet", press.license(2, 0), 3);
        Check.due("its coins", press.houseOf(0, 0), 94);
        press.edition();
        Check.due("the third, with shown ones", press.license(2, 1), 4);
        press.correct(0, 0);
        Check.due("one less, corrected", press.license(0, 1), 4);
        press.take(2);
        Check.due("two less, taken away", press.license(0, 2), 3);
        Check.due("the second of the other", press.license(1, 0), 3);
    }

    /** Terms: "To correct a misprint costs a fine, by three rules, one behind the other: it is 1 more than how bad the
     * misprint is; then it is 2 more if the misprint is licensed; then it is doubled if it is shown." */
    static void finesByThreeRules() {
        String[] behind = {"", ";l00", ";l00;e"};
        for (int bad = 1; bad <= 5; bad++) {
            int[] due = {bad + 1, bad + 3, 2 * bad + 6};
            for (int k = 0; k < 3; k++) {
                ErrataPress press = Check.pressAfter("h99;s0=aaa;m00" + LETTERS.charAt(bad) + behind[k]);
                int coins = press.houseOf(0, 0);
                Check.due("the fine", press.fine(0, 0, false), due[k]);
                Check.due("the fine, told at once", press.fine(0, 0, true), due[k]);
                Check.due("the fine to be paid", press.correct(0, 0), due[k]);
                Check.due("the coins", press.houseOf(0, 0), coins - due[k]);
            }
        }
    }

    /** Terms: "The right letter is set then." */
    static void correctedLettersAreRight() {
        for (String text : new String[] {"m01f", "m01f;l01", "m01f;l01;e"}) {
            ErrataPress press = Check.pressAfter("h99;s0=abc;m00f;" + text);
            press.correct(0, 1);
            Check.due("its letter", press.letterAt(0, 1, false), 'b');
            Check.due("its mark", press.markAt(0, 1), 0);
            Check.due("the sheet", Check.lineOf(press, 0), "0:Fbc");
        }
    }

    // Readers and editions

    /** Terms: "At most 5 readers come, numbered from 0, of two kinds, each with a taste from 1 to 6" */
    static void fiveReadersNumberedFrom0() {
        ErrataPress press = new ErrataPress();
        int[] kinds = {0, 1, 0, 1, 0};
        int[] tastes = {1, 6, 6, 1, 3};
        for (int k = 0; k < 5; k++) {
            Check.due("readers", press.account(2), k);
            Check.due("the number", press.reader(kinds[k], tastes[k]), k);
        }
        Check.dueRefusal(press, 1, 5, () -> press.reader(0, 1));
        Check.due("readers", press.account(2), 5);
    }

    /** Terms: "those of the kind 0 laugh at a misprint if the wrong letter is that with the number of the taste" */
    static void kind0LaughsAtTheLetter() {
        for (int taste = 1; taste <= 6; taste++) {
            ErrataPress press = Check.pressAfter("h9;s0=aaaaaa;s0=ffffff");
            press.reader(0, taste);
            for (int letter = 1; letter <= 6; letter++) {
                int place = letter - 1;
                int sheet = letter == 1 ? 1 : 0;
                press.set(sheet, place, LETTERS.charAt(place));
                Check.due(taste + " at " + letter, press.laughing(sheet, place), letter == taste ? 1 : 0);
            }
            Check.due("at a right a", press.laughing(0, 0), 0);
            Check.due("at a right f", press.laughing(1, 5), 0);
        }
    }

    /** Terms: "those of the kind 1 laugh if it is as bad as the taste at least" */
    static void kind1LaughsIfAsBad() {
        for (int taste = 1; taste <= 6; taste++) {
            ErrataPress press = Check.pressAfter("h9;s0=aaaaaa;s0=ffffff");
            press.reader(1, taste);
            for (int bad = 1; bad <= 5; bad++) {
                press.set(0, bad, LETTERS.charAt(bad));
                press.set(1, bad, LETTERS.charAt(5 - bad));
                int due = bad >= taste ? 1 : 0;
                Check.due(taste + " at " + bad + " too far", press.laughing(0, bad), due);
                Check.due(taste + " at " + bad + " too near", press.laughing(1, bad), due);
            }
            Check.due("at a right letter", press.laughing(0, 0), 0);
        }
    }

    /** Terms: "In an edition all misprints that are licensed and not shown yet are printed, by sheets and places; the
     * shame of their house becomes more by how bad they are; and each reader who laughs at one gives its house 1 coin."
     */
    static void editionsPrintWhatIsLicensedAndNotShown() {
        ErrataPress press = Check.pressAfter("h50;h60;s1=aaa;s0=aaa;r06;r15;r12;m00f;m01b;m02f;m10c;m12f;l00;l10;l12");
        Check.due("the laughs", press.edition(), 3 + 1 + 3);
        Check.due("sheet 0", Check.lineOf(press, 0), "1:F!BF");
        Check.due("sheet 1", Check.lineOf(press, 1), "0:C!aF!");
        Check.due("house 0", Check.houseLineOf(press, 0), "0$49~7");
        Check.due("house 1", Check.houseLineOf(press, 1), "1$61~5");
        press.license(0, 1);
        Check.due("the laughs, at the new one alone", press.edition(), 0);
        Check.due("house 0 as it was", Check.houseLineOf(press, 0), "0$49~7");
        Check.due("house 1", Check.houseLineOf(press, 1), "1$58~6");
        Check.due("printed", press.account(8), 4);
    }

    /** Terms: "On a day that goes by the shame of each house with some becomes 1 less, and each house gets 1 coin." */
    static void daysTake1ShameAndGive1Coin() {
        ErrataPress press = Check.pressAfter("h10;h10;h0;s0=aaa;s1=aaa;m00b;m10c;l00;l10;e");
        String[][] due = {{"0$9~0", "1$9~1", "2$1~0"}, {"0$10~0", "1$10~0", "2$2~0"}, {"0$11~0", "1$11~0", "2$3~0"}};
        for (String[] lines : due) {
            press.day();
            for (int house = 0; house < 3; house++) {
                Check.due("house " + house, Check.houseLineOf(press, house), lines[house]);
            }
        }
    }

    // Lines

    /** Terms: "The line of a sheet is its house, ":", and the letters set, a capital letter for a misprint, "'" behind
     * a licensed one that is not shown, and "!" behind a shown one; as in "1:aB'cD!"." */
    static void linesOfSheets() {
        ErrataPress press = Check.pressAfter("h9;h99;s1=aaca");
        Check.due("all is right", Check.lineOf(press, 0), "1:aaca");
        Check.runText(press, "m03d;m01b");
        Check.due("two plain ones", Check.lineOf(press, 0), "1:aBcD");
        press.license(0, 3);
        Check.due("one is licensed", Check.lineOf(press, 0), "1:aBcD'");
        press.edition();
        Check.due("it is shown", Check.lineOf(press, 0), "1:aBcD!");
        press.license(0, 1);
        Check.due("the other is licensed", Check.lineOf(press, 0), "1:aB'cD!");
        Check.runText(press, "s0=abcdef;m10f;m11a;m12a;m13a;m14a;m15a");
        Check.due("all letters as capitals", Check.lineOf(press, 1), "0:FAAAAA");
        Check.runText(press, "m10b;m11c;m12d;m13e;m14f;m15e");
        Check.due("all letters as capitals", Check.lineOf(press, 1), "0:BCDEFE");
    }

    /** Terms: "The line of a house is its number, "$", its coins, "~" and its shame, and "*" if it is ashamed." */
    static void linesOfHouses() {
        ErrataPress press = Check.pressAfter("h0;h9;h10;h99");
        String[] due = {"0$0~0", "1$9~0", "2$10~0", "3$99~0"};
        for (int house = 0; house < 4; house++) {
            Check.due("house " + house, Check.houseLineOf(press, house), due[house]);
        }
        Check.due("a shame of 9", Check.houseLineOf(Check.pressWithShame(9), 0), "0$94~9");
        Check.due("a shame of 10", Check.houseLineOf(Check.pressWithShame(10), 0), "0$94~10");
        Check.due("a shame of 20", Check.houseLineOf(Check.pressWithShame(20), 0), "0$85~20");
        Check.due("a shame of 21", Check.houseLineOf(Check.pressWithShame(21), 0), "0$79~21*");
    }

    // Texts

    /** Terms: "The input has at most 60 characters." */
    static void inputOf60Characters() {
        ErrataPress press = new ErrataPress();
        Check.type(press, "d;".repeat(29) + "d");
        Check.due("the input", press.account(13), 59);
        Check.due("the sixtieth", press.append(';'), 60);
        Check.dueThrow("the sixty-first", Check.STATE, () -> press.append('d'));
        Check.due("the input", press.account(13), 60);
        Check.dueThrow("the text of sixty", Check.ILLEGAL, press::run);
        Check.due("all sixty are read", press.errorPosition(), 60);
    }

    /** Terms: ""h" and coins let a house come; "s", a house, "=" and a word a sheet; "m", a sheet, a place and a letter
     * set this letter; "l", a sheet and a place license a misprint; "c", a sheet and a place correct one; "r", a kind
     * and a taste let a reader come; "x" and a sheet takes it away; "e" is an edition; "d" is a day." */
    static void ordersDoWhatTheCallsDo() {
        String[] orders = {"h0", "h99", "s1=abc", "s0=fedcbafe", "m01f", "m10e", "l00", "l11", "c00", "c11", "r01", "r16",
            "x0", "x1", "e", "d"};
        for (int k = 0; k < orders.length; k++) {
            ErrataPress called = Check.pressAfter("h50;h40;s1=aaa;s0=bcd;r12;m00f;m11f;m02f;l02");
            ErrataPress told = Check.pressAfter("h50;h40;s1=aaa;s0=bcd;r12;m00f;m11f;m02f;l02");
            callOrder(called, k);
            Check.due("the orders", Check.runText(told, orders[k]), 1);
            Check.due("behind " + orders[k], Check.picture(told), Check.picture(called));
        }
    }

    private static void callOrder(ErrataPress press, int k) {
        switch (k) {
            case 0, 1 -> press.house(k * 99);
            case 2 -> press.sheet(1, 123);
            case 3 -> press.sheet(0, 65432165);
            case 4 -> press.set(0, 1, 'f');
            case 5 -> press.set(1, 0, 'e');
            case 6, 7 -> press.license(k - 6, k - 6);
            case 8, 9 -> press.correct(k - 8, k - 8);
            case 10 -> press.reader(0, 1);
            case 11 -> press.reader(1, 6);
            case 12, 13 -> press.take(k - 12);
            case 14 -> press.edition();
            default -> press.day();
        }
    }

    /** Terms: "A text consists of orders with a semicolon between two of them" */
    static void semicolonsStandBetweenOrders() {
        Check.due("one order", Check.runText(new ErrataPress(), "d"), 1);
        Check.due("two orders", Check.runText(new ErrataPress(), "d;d"), 2);
        Check.due("thirty orders", Check.runText(new ErrataPress(), "d;".repeat(29) + "d"), 30);
        dueError("", 0);
        dueError(";d", 0);
        dueError("d;", 2);
        dueError("d;;d", 2);
        dueError("dd", 1);
        dueError("d,d", 1);
        dueError("h1h1", 2);
        dueError("d;".repeat(30), 60);
    }

    private static void dueError(String text, int position) {
        ErrataPress press = Check.pressAfter("h9;s0=abcd;m00f");
        Check.type(press, text);
        Check.dueThrow("the text " + text, Check.ILLEGAL, press::run);
        Check.due("the error of " + text, press.errorPosition(), position);
    }

    /** A text that is carried out, or throws for what its orders are, but has no error. */
    private static void dueNoError(String text) {
        ErrataPress press = Check.pressAfter("h9;s0=abcd;m00f");
        Check.type(press, text);
        try {
            press.run();
        } catch (IllegalArgumentException | UnsupportedOperationException e) {
            // The position tells what is due.
        }
        Check.due("the error of " + text, press.errorPosition(), -1);
    }

    /** Terms: "Coins have one or two digits" */
    static void coinsHaveOneOrTwoDigits() {
        dueError("h", 1);
        dueError("h;d", 1);
        dueNoError("h0");
        dueNoError("h9;d");
        dueNoError("h00");
        dueNoError("h99;d");
        dueError("h000", 3);
        dueError("h100", 3);
        dueError("h/", 1);
        dueError("h:", 1);
        dueError("h9/", 2);
        dueError("h9:", 2);
        ErrataPress press = Check.pressAfter("h0;h9;h01;h99");
        int[] due = {0, 9, 1, 99};
        for (int house = 0; house < 4; house++) {
            Check.due("the coins", press.houseOf(house, 0), due[house]);
        }
    }

    /** Terms: "words are three to eight letters" */
    static void wordsAreThreeToEightLetters() {
        dueError("s0=", 3);
        dueError("s0=a", 4);
        dueError("s0=ab", 5);
        dueError("s0=ab;d", 5);
        dueNoError("s0=abc");
        dueNoError("s0=abc;d");
        dueNoError("s0=abcdefa");
        dueNoError("s0=abcdefab");
        dueNoError("s0=abcdefab;d");
        dueError("s0=abcdefabc", 11);
    }

    /** Terms: "letters are a to f" */
    static void lettersAreAToF() {
        for (char letter = 0; letter < 256; letter++) {
            if (letter >= 'a' && letter <= 'f') {
                dueNoError("m01" + letter);
                dueNoError("s0=ab" + letter);
                dueNoError("s0=" + letter + "ab");
            } else {
                dueError("m01" + letter, 3);
                dueError("s0=ab" + letter, 5);
                dueError("s0=" + letter + "ab", 3);
            }
        }
    }

    /** Terms: "all other numbers have one digit" */
    static void otherNumbersHaveOneDigit() {
        for (char sign = 0; sign < 256; sign++) {
            if (sign >= '0' && sign <= '9') {
                dueNoError("s" + sign + "=abc");
                dueNoError("l0" + sign);
                dueNoError("x" + sign);
            } else {
                dueError("s" + sign + "=abc", 1);
                dueError("l0" + sign, 2);
                dueError("x" + sign, 1);
            }
        }
        dueError("s00=abc", 2);
        dueError("m000a", 3);
        dueError("l000", 3);
        dueError("c000", 3);
        dueError("r011", 3);
        dueError("x00", 2);
    }

    /** Terms: "all stands side by side, as in "s0=abc;m01f;l01"" */
    static void allStandsSideBySide() {
        Check.due("the orders", Check.runText(Check.pressAfter("h9"), "s0=abc;m01f;l01"), 3);
        String text = "h9;s0=abc;m01f;l01;c01;r11;x0;e;d";
        for (int k = 0; k <= text.length(); k++) {
            dueError(text.substring(0, k) + " " + text.substring(k), k);
        }
    }

    /** Terms: "The error position of a text is the offset of the first character that cannot continue such a text" */
    static void firstCharacterThatCannotContinue() {
        dueError("q", 0);
        dueError("dq;q", 1);
        dueError("d;q", 2);
        dueError("d;h1q", 4);
        dueError("d;h1;q;h123", 5);
        dueError("d;".repeat(28) + "h1;z", 59);
        dueError("d;".repeat(28) + "h11z", 59);
        dueNoError("d;".repeat(28) + "h1;d");
    }

    /** Terms: "or the length of the text if it ends too early" */
    static void textsThatEndTooEarly() {
        String[] texts = {"h9", "s0=abc", "m00f", "l00", "c00", "r11", "x0"};
        for (String text : texts) {
            for (int k = 1; k < text.length(); k++) {
                dueError(text.substring(0, k), k);
                dueError("d;" + text.substring(0, k), k + 2);
            }
            dueNoError(text);
            dueNoError("d;" + text);
        }
        dueError("d;".repeat(29) + "x", 59);
        dueError("d;".repeat(28) + "s0=a", 60);
    }

    /** Terms: "A text is carried out if each order can be, one after the other; else nothing of it is" */
    static void allOrNothingIsCarriedOut() {
        Check.due("each can be", Check.runText(new ErrataPress(), "h9;s0=abc;m00f;l00;e"), 5);
        Check.dueThrowAlone("h9;s0=abc", Check.REFUSED, press -> Check.runText(press, "h9;r11;m01f;l01;e;d;e"));
        Check.dueThrowAlone("h9;s0=abc", Check.ILLEGAL, press -> Check.runText(press, "h9;r11;m01f;l01;e;d;x0;x0"));
        Check.dueThrowAlone("h9;s0=abc", Check.ILLEGAL, press -> Check.runText(press, "h9;r11;m01f;l01;e;d;"));
        Check.dueThrowAlone("h9;s0=abc", Check.REFUSED, press -> Check.runText(press, "e;d;d"));
    }

    /** Terms: "the first order that cannot be decides what is thrown" */
    static void firstOrderThatCannotBeDecides() {
        ErrataPress press = Check.pressAfter("h9;s0=abc");
        Check.dueThrow("outside behind", Check.REFUSED, () -> Check.runText(press, "e;x1"));
        Check.due("the order", press.refusal(false, true), 0);
        Check.dueThrow("refused behind", Check.ILLEGAL, () -> Check.runText(press, "x1;e"));
        Check.dueThrow("outside behind", Check.REFUSED, () -> Check.runText(press, "d;l00;e;r00"));
        Check.due("the order", press.refusal(false, true), 1);
        Check.due("the reason behind", press.refusal(true, false), 4);
        Check.dueThrow("refused behind", Check.ILLEGAL, () -> Check.runText(press, "d;r00;l00;e"));
        Check.dueThrow("refused behind, refused ahead", Check.REFUSED, () -> Check.runText(press, "d;d;m00a;l00"));
        Check.due("the order", press.refusal(false, true), 2);
        Check.due("the reason behind", press.refusal(true, false), 2);
    }

    // Reasons

    /** Terms: "1, there are 4 houses, 8 sheets or 5 readers: this number" */
    static void reason1ForWhatIsFull() {
        ErrataPress press = Check.pressAfter("h0;h0;h0;s0=aaa;s0=aaa;s0=aaa;s0=aaa;s0=aaa;s0=aaa;s0=aaa;r01;r01;r01;r01");
        Check.due("the fourth house", press.house(1), 3);
        Check.dueRefusal(press, 1, 4, () -> press.house(1));
        Check.due("the eighth sheet", press.sheet(1, 111), 7);
        Check.dueRefusal(press, 1, 8, () -> press.sheet(1, 111));
        Check.due("the fifth reader", press.reader(1, 1), 4);
        Check.dueRefusal(press, 1, 5, () -> press.reader(1, 1));
    }

    /** Terms: "2, the letter is set there already: the place" */
    static void reason2ForTheLetterThatIsSet() {
        ErrataPress press = Check.pressAfter("h99;s0=abcdefab;m03f;m07f;l07");
        for (int place = 0; place < 8; place++) {
            int at = place;
            char set = press.letterAt(0, place, false);
            Check.dueRefusal(press, 2, place, () -> press.set(0, at, set));
        }
        Check.due("another letter", press.set(0, 3, 'e') + press.set(0, 0, 'b'), 2 + 3);
    }

    /** Terms: "3, it is the right letter: the place" */
    static void reason3ForTheRightLetter() {
        ErrataPress press = Check.pressAfter("h99;s0=abcdefab;m00b;m03e;m07f;l07;e");
        Check.dueRefusal(press, 3, 0, () -> press.set(0, 0, 'a'));
        Check.dueRefusal(press, 3, 3, () -> press.set(0, 3, 'd'));
        Check.dueRefusal(press, 3, 7, () -> press.set(0, 7, 'b'));
        Check.due("letters beside it", press.set(0, 3, 'c') + press.set(0, 7, 'a') + press.set(0, 7, 'c'), 9);
    }

    /** Terms: "4, there is no misprint: the place" */
    static void reason4ForNoMisprint() {
        ErrataPress press = Check.pressAfter("h99;s0=abcdefab;m01f;m06f");
        for (int place : new int[] {0, 2, 5, 7}) {
            Check.dueRefusal(press, 4, place, () -> press.license(0, place));
            Check.dueRefusal(press, 4, place, () -> press.correct(0, place));
        }
        Check.due("a misprint", press.license(0, 1) + press.correct(0, 6), 2 + 6);
        press.correct(0, 1);
        Check.dueRefusal(press, 4, 1, () -> press.license(0, 1));
        Check.dueRefusal(press, 4, 6, () -> press.correct(0, 6));
    }

    /** Terms: "5, it is licensed already: the place" */
    static void reason5ForWhatIsLicensed() {
        ErrataPress press = Check.pressAfter("h99;s0=abcdefab;m00f;m07f;m03f;l00;e;l07");
        Check.dueRefusal(press, 5, 0, () -> press.license(0, 0));
        Check.dueRefusal(press, 5, 7, () -> press.license(0, 7));
        Check.due("a plain one", press.license(0, 3), 4);
        Check.dueRefusal(press, 5, 3, () -> press.license(0, 3));
        press.set(0, 7, 'e');
        Check.due("a plain one again", press.license(0, 7), 4);
    }

    /** Terms: "6, the house is ashamed: its shame" */
    static void reason6ForAnAshamedHouse() {
        for (int shame = 20; shame <= 23; shame++) {
            ErrataPress press = Check.pressWithShame(shame);
            press.set(2, 0, 'f');
            for (int left = shame; left > 20; left--) {
                Check.dueRefusal(press, 6, left, () -> press.license(2, 0));
                press.day();
            }
            Check.due("a licence with a shame of 20", press.license(2, 0), shame == 20 ? 6 : 7);
        }
        ErrataPress most = Check.pressWithShame(100);
        most.set(2, 7, 'f');
        Check.dueRefusal(most, 6, 99, () -> most.license(2, 7));
    }

    /** Terms: "7, the house has too few coins: how many" */
    static void reason7ForTooFewCoins() {
        for (int coins = 0; coins <= 5; coins++) {
            ErrataPress press = new ErrataPress();
            press.house(coins);
            Check.runText(press, "h99;s0=aaa;m00b;m01e");
            int has = coins;
            press.save();
            if (coins < 2) {
                Check.dueRefusal(press, 7, has, () -> press.license(0, 0));
                Check.dueRefusal(press, 7, has, () -> press.correct(0, 0));
            } else {
                Check.due("a licence", press.license(0, 0), 2);
                press.restore();
                Check.due("a fine", press.correct(0, 0), 2);
                press.restore();
            }
            if (coins < 5) {
                Check.dueRefusal(press, 7, has, () -> press.correct(0, 1));
            } else {
                Check.due("a higher fine", press.correct(0, 1), 5);
            }
        }
    }

    /** Terms: "8, there is nothing to print: how many editions there were" */
    static void reason8ForNothingToPrint() {
        ErrataPress press = Check.pressAfter("h99;s0=aaaa;m00b;m01b;m02b");
        for (int editions = 0; editions < 3; editions++) {
            Check.dueRefusal(press, 8, editions, press::edition);
            press.license(0, editions);
            Check.due("one is there to print", press.edition(), 0);
        }
        Check.dueRefusal(press, 8, 3, press::edition);
        press.undo();
        Check.due("one is there again", press.edition(), 0);
        ErrataPress empty = new ErrataPress();
        Check.dueRefusal(empty, 8, 0, empty::edition);
    }

    /** Terms: "9, an order of a text is refused: its number, from 0; behind it stands the reason for which it is
     * refused" */
    static void reason9ForAnOrder() {
        dueOrderRefused("m00f", 0, 2, 0);
        dueOrderRefused("d;m00a", 1, 3, 0);
        dueOrderRefused("d;d;l03", 2, 4, 3);
        dueOrderRefused("l00;l00", 1, 5, 0);
        dueOrderRefused("l00;d;m01f;c01", 3, 7, 4);
        dueOrderRefused("e;d", 0, 8, 0);
        dueOrderRefused("h1;h1;h1;h1;d", 3, 1, 4);
        dueOrderRefused("d;".repeat(29) + "e", 29, 8, 0);
    }

    private static void dueOrderRefused(String text, int order, int reason, int detail) {
        ErrataPress press = Check.pressAfter("h5;s0=abcd;m00f");
        Check.type(press, text);
        Check.dueThrow(text, Check.REFUSED, press::run);
        Check.due("the reason of " + text, press.refusal(false, false), 9);
        Check.due("the order of " + text, press.refusal(false, true), order);
        Check.due("the reason behind " + text, press.refusal(true, false), reason);
        Check.due("the detail behind " + text, press.refusal(true, true), detail);
    }

    /** Terms: "Something is refused for the first that applies of the reasons that its method names, in the order in
     * which it names them, with a detail" */
    static void firstReasonThatApplies() {
        ErrataPress press = Check.pressAfter("h99;s0=aaaaaaaa;m00f;m01f;m02f;m03f;m04b;m05b;l00;l01;l02;l03;l04;e");
        Check.dueRefusal(press, 2, 6, () -> press.set(0, 6, 'a'));
        while (press.houseOf(0, 0) >= 6) {
            press.correct(0, 0);
            press.set(0, 0, 'f');
        }
        Check.due("the shame", press.houseOf(0, 1), 21);
        Check.due("the coins, too few for all that follows", press.houseOf(0, 0), 3);
        Check.dueRefusal(press, 4, 6, () -> press.license(0, 6));
        Check.dueRefusal(press, 4, 6, () -> press.correct(0, 6));
        Check.dueRefusal(press, 5, 1, () -> press.license(0, 1));
        Check.dueRefusal(press, 6, 21, () -> press.license(0, 5));
        Check.dueRefusal(press, 7, 3, () -> press.correct(0, 1));
        press.day();
        Check.dueRefusal(press, 7, 4, () -> press.license(0, 5));
    }

    // Undo and exceptions

    /** Terms: "The changes are the successful calls of house, sheet, set, license, correct, reader, take, edition, day
     * and run." */
    static void tenCallsAreChanges() {
        ErrataPress press = Check.pressAfter("h99");
        dueChanges(press, 1, () -> press.undo() + press.house(99));
        dueChanges(press, 2, () -> press.sheet(0, 123));
        dueChanges(press, 3, () -> press.set(0, 0, 'b'));
        dueChanges(press, 4, () -> press.license(0, 0));
        dueChanges(press, 5, () -> press.correct(0, 0));
        dueChanges(press, 6, () -> press.reader(0, 1));
        dueChanges(press, 7, () -> press.take(0));
        dueChanges(press, 8, press::day);
        press.save();
        press.restore();
        dueChanges(press, 1, () -> Check.runText(press, "s0=abc;m00f;l00"));
        dueChanges(press, 2, press::edition);
    }

    private interface Call {
        int answer();
    }

    private static void dueChanges(ErrataPress press, int changes, Call call) {
        call.answer();
        Check.due("the changes", press.account(14), changes);
    }

    /** Terms: "The changes are the successful calls" */
    static void refusedCallsAreNoChanges() {
        ErrataPress press = Check.pressAfter("h1;h1;h1;h1;s0=abc;m00f");
        Check.dueThrow("house", Check.REFUSED, () -> press.house(1));
        Check.dueThrow("house", Check.ILLEGAL, () -> press.house(100));
        Check.dueThrow("sheet", Check.OUTSIDE, () -> press.sheet(4, 123));
        Check.dueThrow("set", Check.REFUSED, () -> press.set(0, 0, 'f'));
        Check.dueThrow("license", Check.REFUSED, () -> press.license(0, 0));
        Check.dueThrow("correct", Check.REFUSED, () -> press.correct(0, 1));
        Check.dueThrow("reader", Check.ILLEGAL, () -> press.reader(2, 1));
        Check.dueThrow("take", Check.OUTSIDE, () -> press.take(1));
        Check.dueThrow("edition", Check.REFUSED, press::edition);
        Check.dueThrow("run", Check.REFUSED, () -> Check.runText(press, "d;e"));
        Check.dueThrow("run", Check.ILLEGAL, () -> Check.runText(press, "d;"));
        Check.dueThrow("run", Check.ILLEGAL, () -> Check.runText(press, "d;x1"));
        Check.due("one change, the text", press.account(14), 1);
        Check.due("its undo", press.undo(), 0);
        Check.due("no houses", press.account(0), 0);
    }

    /** Terms: "The changes are the successful calls" */
    static void otherCallsAreNoChanges() {
        ErrataPress press = Check.pressAfter("h9;s0=abc;m00f;l00;m01f");
        String ahead = Check.picture(press);
        int sum = press.houseOf(0, 5) + press.sheetOf(0, 5) + press.letterAt(0, 0, true) + press.markAt(0, 0)
            + press.fine(0, 0, false) + press.fine(0, 0, true) + press.fines(0, false) + press.fines(0, true)
            + press.laughing(0, 0) + press.bargain(true) + press.bargain(false) + press.wouldShame(0)
            + press.wouldLaugh(false) + press.wouldLaugh(true) + press.nearest(0) + press.calmIn(0) + press.ashamed(0)
            + press.worst(0) + press.line(0) + press.houseLine(0) + press.append('d') + press.errorPosition()
            + press.account(5) + press.save();
        Check.due("all is answered", sum > 0 && press.isWell() && !press.canMend(0), true);
        Check.due("the means", press.meanShame() + press.errorShare() > 0, true);
        Check.due("one change, the text", press.account(14), 1);
        Check.due("what is there", Check.picture(press), ahead);
    }

    /** Terms: "The latest 8 can be undone" */
    static void latest8CanBeUndone() {
        for (int changes = 0; changes <= 18; changes++) {
            ErrataPress press = new ErrataPress();
            for (int day = 0; day < changes; day++) {
                press.day();
            }
            int kept = Math.min(8, changes);
            Check.due("changes", press.account(14), kept);
            for (int left = kept - 1; left >= 0; left--) {
                Check.due("the undo", press.undo(), left);
                Check.due("the day", press.account(3), changes - kept + left);
            }
            Check.dueThrow("one more", Check.STATE, press::undo);
            Check.due("the day", press.account(3), changes - kept);
        }
    }

    /** Terms: "restore forgets all" */
    static void restoreForgetsAll() {
        for (int changes = 0; changes <= 9; changes++) {
            ErrataPress press = new ErrataPress();
            press.save();
            for (int day = 0; day < changes; day++) {
                press.day();
            }
            Check.due("the sheets", press.restore(), 0);
            Check.due("changes", press.account(14), 0);
            Check.dueThrow("an undo", Check.STATE, press::undo);
            press.day();
            Check.due("the undo of what came behind", press.undo(), 0);
            Check.dueThrow("an undo", Check.STATE, press::undo);
        }
    }

    /** Terms: "A method that throws an exception leaves the state unchanged unless its documentation says otherwise."
     */
    static void whatThrowsChangesNothing() {
        String text = "h1;h99;h9;h9;s0=abc;s1=abc;m00f;m10f;l10";
        Check.dueThrowAlone(text, Check.REFUSED, press -> press.house(9));
        Check.dueThrowAlone(text, Check.ILLEGAL, press -> press.house(100));
        Check.dueThrowAlone(text, Check.OUTSIDE, press -> press.sheet(4, 123));
        Check.dueThrowAlone(text, Check.ILLEGAL, press -> press.sheet(0, 127));
        Check.dueThrowAlone(text, Check.OUTSIDE, press -> press.take(2));
        Check.dueThrowAlone(text, Check.OUTSIDE, press -> press.set(0, 3, 'a'));
        Check.dueThrowAlone(text, Check.ILLEGAL, press -> press.set(0, 2, 'g'));
        Check.dueThrowAlone(text, Check.REFUSED, press -> press.set(1, 0, 'a'));
        Check.dueThrowAlone(text, Check.REFUSED, press -> press.license(0, 0));
        Check.dueThrowAlone(text, Check.REFUSED, press -> press.license(1, 0));
        Check.dueThrowAlone(text, Check.REFUSED, press -> press.correct(0, 0));
        Check.dueThrowAlone(text, Check.REFUSED, press -> press.correct(1, 1));
        Check.dueThrowAlone(text, Check.ILLEGAL, press -> press.reader(0, 7));
        Check.dueThrowAlone(text + ";e", Check.REFUSED, ErrataPress::edition);
        Check.dueThrowAlone(text, Check.STATE, ErrataPress::restore);
    }

    /** Terms: "If several exceptions apply, the one that is documented first is thrown." */
    static void firstDocumentedExceptionIsThrown() {
        ErrataPress press = Check.pressAfter("h9;h9;h9");
        Check.dueThrow("sheet: the house ahead of the word", Check.OUTSIDE, () -> press.sheet(3, 12));
        Check.runText(press, "h9;s0=abc;s0=abc;s0=abc;s0=abc;s0=abc;s0=abc;s0=abc;s0=abc");
        Check.runText(press, "r01;r01;r01;r01;r01");
        Check.dueThrow("house: the coins ahead of the houses", Check.ILLEGAL, () -> press.house(100));
        Check.dueThrow("house: the coins ahead of the houses", Check.ILLEGAL, () -> press.house(-1));
        Check.dueThrow("sheet: the house ahead of the sheets", Check.OUTSIDE, () -> press.sheet(4, 123));
        Check.dueThrow("sheet: the house ahead of all", Check.OUTSIDE, () -> press.sheet(-1, 0));
        Check.dueThrow("sheet: the word ahead of the sheets", Check.ILLEGAL, () -> press.sheet(3, 12));
        Check.dueThrow("set: the sheet ahead of the letter", Check.OUTSIDE, () -> press.set(8, 0, 'g'));
        Check.dueThrow("set: the place ahead of the letter", Check.OUTSIDE, () -> press.set(7, 3, 'g'));
        Check.dueThrow("reader: the kind ahead of the readers", Check.ILLEGAL, () -> press.reader(2, 1));
        Check.dueThrow("reader: the taste ahead of the readers", Check.ILLEGAL, () -> press.reader(1, 7));
        Check.dueThrow("houseOf: the house ahead of what", Check.OUTSIDE, () -> press.houseOf(4, 7));
        Check.dueThrow("sheetOf: the sheet ahead of what", Check.OUTSIDE, () -> press.sheetOf(-1, -1));
        Check.dueThrow("nothing was refused", Check.NO_ELEMENT, () -> press.refusal(false, false));
    }

    /** Terms: "The input, the line, the error position and the reason are neither undone nor saved, and stay." */
    static void fourThingsAreNeitherUndoneNorSaved() {
        ErrataPress press = Check.pressAfter("h9;s0=abc");
        press.save();
        Check.dueThrow("a text with an error", Check.ILLEGAL, () -> Check.runText(press, "d;h1x"));
        Check.dueRefusal(press, 4, 2, () -> press.license(0, 2));
        int length = press.line(0);
        press.append('d');
        press.day();
        press.undo();
        dueToStay(press, length);
        press.set(0, 0, 'f');
        press.restore();
        dueToStay(press, length);
        Check.due("the input is carried out", press.run(), 1);
        Check.due("the error position is another one", press.errorPosition(), -1);
        press.undo();
        press.restore();
        Check.due("the error position stays", press.errorPosition(), -1);
    }

    private static void dueToStay(ErrataPress press, int length) {
        Check.due("the input", press.account(13), 1);
        Check.due("the line", Check.written(press, length), "0:abc");
        Check.due("the error position", press.errorPosition(), 4);
        Check.due("the reason", press.refusal(false, false), 4);
        Check.due("its detail", press.refusal(false, true), 2);
    }

    // In doubt

    /** Terms: "Shown misprints count among the licensed ones wherever these are told or counted." */
    static void shownOnesCountAmongTheLicensed() {
        ErrataPress press = Check.pressAfter("h99;s0=aaaa;m00b;m01b;m02b;m03b;l00;l01;e;l02");
        Check.due("of the house", press.houseOf(0, 4), 3);
        Check.due("what a licence costs", press.houseOf(0, 5), 5);
        Check.due("of the sheet", press.sheetOf(0, 3), 3);
        Check.due("the shown ones alone", press.sheetOf(0, 4), 2);
        Check.due("of all", press.account(6), 3);
        Check.due("the shown ones of all", press.account(7), 2);
        Check.due("the fine of a shown one, doubled with both more", press.fine(0, 0, false), (1 + 1 + 2) * 2);
        Check.dueRefusal(press, 5, 0, () -> press.license(0, 0));
        press.edition();
        Check.due("all three are licensed yet", press.houseOf(0, 4) + press.sheetOf(0, 3) + press.account(6), 9);
        Check.due("and count in the cost", press.license(0, 3), 5);
    }

    /** Terms: "A bargain can be worth less than 0." */
    static void bargainsWorthLessThan0() {
        ErrataPress press = Check.pressAfter("h99;s0=aaaa;m01b");
        dueBargain(press, 0, 1);
        Check.runText(press, "r12;m02c");
        dueBargain(press, 0, 2);
        press.reader(1, 2);
        dueBargain(press, 0, 2);
        press.reader(1, 2);
        dueBargain(press, 0, 2);
        Check.runText(press, "m00b;l00;l02;m03b");
        dueBargain(press, 0, 1);
    }

    private static void dueBargain(ErrataPress press, int sheet, int place) {
        Check.due("the sheet of the bargain", press.bargain(false), sheet);
        Check.due("the place of the bargain", press.bargain(true), place);
    }

    /** Terms: "For the nearest word letters are looked at place by place, and the right word of the sheet itself is one
     * of them." */
    static void nearestByPlaces() {
        ErrataPress press = Check.pressAfter("h9;s0=bcd;s0=fab");
        press.set(1, 0, 'e');
        Check.due("eab is 1 from its own fab", press.nearest(1), 1);
        ErrataPress moved = Check.pressAfter("h9;s0=abcd;s0=eeee;m00b;m01c;m02d;m03e");
        Check.due("bcde has three letters of abcd, each at another place", moved.nearest(0), 1);
        ErrataPress alone = Check.pressAfter("h9;s0=abc;m00f;m01f;m02f");
        Check.due("its own word is the one there is", alone.nearest(0), 0);
    }
}
