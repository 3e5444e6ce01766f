/** Promises 1 to 14. */
public final class HousesAndSheetsTest {
    private static final int LEAST = Integer.MIN_VALUE;
    private static final int MOST = Integer.MAX_VALUE;

    public static void main(String[] args) {
        newObject();
        houses();
        sheets();
        takes();
        shortBehindLong();
        sets();
        sheetsWithMarksGo();
        licenses();
        licenceReasonsInOrder();
        corrects();
        readers();
        editions();
        editionsFillUp();
        shameFillsUp();
        days();
        numbersOfHouses();
        numbersOfSheets();
        letters();
        marks();
        Check.finish();
    }

    /** Promise 1. */
    private static void newObject() {
        ErrataPress press = new ErrataPress();
        for (int what = 0; what <= 14; what++) {
            Check.due("a new account " + what, press.account(what), 0);
        }
        Check.due("a new error position", press.errorPosition(), -1);
        Check.dueThrow("a new line", Check.OUTSIDE, () -> press.character(0));
        Check.dueThrow("a new reason", Check.NO_ELEMENT, () -> press.refusal(false, false));
        Check.dueThrow("a new detail", Check.NO_ELEMENT, () -> press.refusal(false, true));
        Check.dueThrow("a new undo", Check.STATE, press::undo);
        Check.dueThrow("a new restore", Check.STATE, press::restore);
    }

    /** Promise 2. */
    private static void houses() {
        ErrataPress press = new ErrataPress();
        Check.dueThrow("house(-1)", Check.ILLEGAL, () -> press.house(-1));
        Check.dueThrow("house(100)", Check.ILLEGAL, () -> press.house(100));
        Check.dueThrow("house(least)", Check.ILLEGAL, () -> press.house(LEAST));
        Check.dueThrow("house(most)", Check.ILLEGAL, () -> press.house(MOST));
        Check.due("no house came", press.account(0), 0);
        int[] coins = {0, 99, 7, 50};
        for (int k = 0; k < 4; k++) {
            Check.due("the number", press.house(coins[k]), k);
        }
        for (int k = 0; k < 4; k++) {
            Check.due("the coins", press.houseOf(k, 0), coins[k]);
            Check.due("the shame", press.houseOf(k, 1), 0);
        }
        Check.dueThrow("a fifth with 100", Check.ILLEGAL, () -> press.house(100));
        Check.dueRefusal(press, 1, 4, () -> press.house(1));
        Check.due("four houses", press.account(0), 4);
        Check.due("four changes", press.account(14), 4);
    }

    /** Promise 3. */
    private static void sheets() {
        ErrataPress press = new ErrataPress();
        Check.dueThrow("no house", Check.OUTSIDE, () -> press.sheet(0, 123));
        Check.dueThrow("no house, no word", Check.OUTSIDE, () -> press.sheet(-1, 0));
        press.house(5);
        press.house(6);
        Check.dueThrow("house 2 of 2", Check.OUTSIDE, () -> press.sheet(2, 123));
        int[] noWords = {0, 1, 66, -123, 100, 110, 107, 711, 170, 678, 12345670, 111111111, 123456123, 1111111111,
            1666666666, MOST, LEAST, 66666667, 66666671, 70111111, -66666666, 90, 101, 1011, 6666666 * 100};
        for (int word : noWords) {
            Check.dueThrow("word " + word, Check.ILLEGAL, () -> press.sheet(1, word));
        }
        Check.due("no sheet", press.account(1), 0);
        int[] words = {111, 666, 1234, 65432, 123456, 6543211, 11111111, 66666666};
        String[] lines = {"1:aaa", "1:fff", "1:abcd", "1:fedcb", "1:abcdef", "1:fedcbaa", "1:aaaaaaaa", "1:ffffffff"};
        for (int k = 0; k < 8; k++) {
            Check.due("the number", press.sheet(1, words[k]), k);
            Check.due("the sheet", Check.lineOf(press, k), lines[k]);
            Check.due("its misprints", press.sheetOf(k, 2), 0);
        }
        Check.dueThrow("a ninth of no house", Check.OUTSIDE, () -> press.sheet(2, 123));
        Check.dueThrow("a ninth without word", Check.ILLEGAL, () -> press.sheet(0, 12));
        Check.dueRefusal(press, 1, 8, () -> press.sheet(0, 123));
        Check.due("eight sheets", press.account(1), 8);
    }

    /** Promise 4. */
    private static void takes() {
        ErrataPress press = Check.pressAfter("h50;h60;s0=abc;s1=abcd;s0=abcde;s1=fedcba;m00f;m11f;m22f;m33f;l11;l22;l33");
        Check.dueThrow("take(-1)", Check.OUTSIDE, () -> press.take(-1));
        Check.dueThrow("take(4)", Check.OUTSIDE, () -> press.take(4));
        Check.due("take(1)", press.take(1), 3);
        Check.due("sheet 0", Check.lineOf(press, 0), "0:Fbc");
        Check.due("sheet 1", Check.lineOf(press, 1), "0:abF'de");
        Check.due("sheet 2", Check.lineOf(press, 2), "1:fedF'ba");
        Check.due("right letter of 2", press.letterAt(2, 3, true), 'c');
        Check.due("the licensed ones", press.account(6), 2);
        Check.due("what a licence costs", press.houseOf(1, 5), 3);
        Check.dueThrow("take(3)", Check.OUTSIDE, () -> press.take(3));
        Check.due("the last one", press.take(2), 2);
        Check.due("the first one", press.take(0), 1);
        Check.due("what stays", Check.lineOf(press, 0), "0:abF'de");
        Check.due("none is left", press.take(0), 0);
        Check.dueThrow("take(0)", Check.OUTSIDE, () -> press.take(0));
        Check.due("a new sheet", press.sheet(1, 222), 0);
        Check.due("its letters", Check.lineOf(press, 0), "1:bbb");
        takesOfEight();
    }

    private static void takesOfEight() {
        for (int sheet = 0; sheet < 8; sheet++) {
            ErrataPress press = Check.pressAfter("h9;h9;s1=aaa;s0=bbb;s1=ccc;s0=ddd;s1=eee;s0=fff;s1=abcdefab;s0=abcd");
            String[] lines = new String[8];
            for (int k = 0; k < 8; k++) {
                lines[k] = Check.lineOf(press, k);
            }
            Check.due("seven are left", press.take(sheet), 7);
            for (int k = 0; k < 7; k++) {
                Check.due("without " + sheet + ", " + k, Check.lineOf(press, k), lines[k < sheet ? k : k + 1]);
            }
            Check.due("an eighth comes", press.sheet(1, 654), 7);
            Check.due("the eighth", Check.lineOf(press, 7), "1:fed");
        }
    }

    /** A short sheet that comes where a long one with misprints was has nothing of it. */
    private static void shortBehindLong() {
        ErrataPress press = Check.pressAfter("h99;r11;s0=aaaaaaaa;m03f;m04f;m05f;m06f;m07f;l03;l05;e;l04;x0;s0=bbb;s0=bbba");
        Check.due("its line", Check.lineOf(press, 0), "0:bbb");
        Check.due("its fines", press.fines(0, false) + press.fines(0, true), 0);
        Check.due("its numbers", press.sheetOf(0, 2) + press.sheetOf(0, 3) + press.sheetOf(0, 5), 0);
        Check.due("what is to come", press.wouldShame(0) - press.houseOf(0, 1) + press.wouldLaugh(false)
            + press.wouldLaugh(true), 0);
        Check.due("what a licence costs", press.houseOf(0, 5), 2);
        Check.due("the nearest", press.nearest(0), 0);
        Check.dueThrow("a bargain", Check.NO_ELEMENT, () -> press.bargain(true));
        Check.dueThrow("its place 3", Check.OUTSIDE, () -> press.markAt(0, 3));
        Check.dueRefusal(press, 8, 1, press::edition);
        press.set(0, 0, 'c');
        press.license(0, 0);
        press.edition();
        Check.due("printed", press.account(8), 3);
        Check.due("all is well", press.isWell(), true);
    }

    /** Promise 5. */
    private static void sets() {
        ErrataPress press = new ErrataPress();
        Check.dueThrow("no sheet", Check.OUTSIDE, () -> press.set(0, 0, 'a'));
        Check.runText(press, "h99;s0=abcdef;s0=fed");
        Check.dueThrow("sheet -1", Check.OUTSIDE, () -> press.set(-1, 0, 'z'));
        Check.dueThrow("sheet 2", Check.OUTSIDE, () -> press.set(2, 0, 'a'));
        Check.dueThrow("place -1", Check.OUTSIDE, () -> press.set(0, -1, 'a'));
        Check.dueThrow("place 6 of 6", Check.OUTSIDE, () -> press.set(0, 6, 'a'));
        Check.dueThrow("place 3 of 3", Check.OUTSIDE, () -> press.set(1, 3, 'z'));
        Check.dueThrow("the last place and sheet there are", Check.OUTSIDE, () -> press.set(MOST, MOST, 'a'));
        for (char letter : new char[] {'g', '`', 'A', 'F', 0, '1', (char) 65535, (char) ('a' + 256)}) {
            Check.dueThrow("letter " + (int) letter, Check.ILLEGAL, () -> press.set(0, 0, letter));
        }
        Check.dueRefusal(press, 2, 5, () -> press.set(0, 5, 'f'));
        Check.due("set f for a", press.set(0, 0, 'f'), 1);
        Check.due("set a for f", press.set(0, 5, 'a'), 2);
        Check.due("set on the other sheet", press.set(1, 1, 'f'), 1);
        Check.dueRefusal(press, 2, 0, () -> press.set(0, 0, 'f'));
        Check.dueRefusal(press, 3, 5, () -> press.set(0, 5, 'f'));
        press.license(0, 0);
        Check.dueRefusal(press, 2, 0, () -> press.set(0, 0, 'f'));
        Check.due("the licence stays", press.markAt(0, 0), 2);
        Check.due("another letter for a licensed one", press.set(0, 0, 'e'), 2);
        Check.due("is plain", press.markAt(0, 0), 1);
        Check.due("no licence is left", press.houseOf(0, 4), 0);
        press.license(0, 0);
        press.edition();
        Check.dueRefusal(press, 3, 0, () -> press.set(0, 0, 'a'));
        Check.due("another letter for a shown one", press.set(0, 0, 'b'), 2);
        Check.due("is plain, too", Check.lineOf(press, 0), "0:BbcdeA");
    }

    private static void sheetsWithMarksGo() {
        ErrataPress press = Check.pressAfter("h99;s0=aaa;s0=bbb;m00b;l00;e;m02f;l02;x0");
        Check.due("nothing is licensed", press.account(6), 0);
        Check.due("the shame stays", press.houseOf(0, 1), 1);
        press.sheet(0, 123);
        Check.due("the new sheet has no marks", Check.lineOf(press, 1), "0:abc");
        Check.dueRefusal(press, 8, 1, press::edition);
    }

    /** Promise 6. */
    private static void licenses() {
        ErrataPress press = Check.pressAfter("h12;h99;s0=abcd;s0=abcd;s1=abcd;m00f;m01f;m12f;m13f;m20f");
        Check.dueThrow("sheet -1", Check.OUTSIDE, () -> press.license(-1, 0));
        Check.dueThrow("sheet 3", Check.OUTSIDE, () -> press.license(3, 0));
        Check.dueThrow("place -1", Check.OUTSIDE, () -> press.license(0, -1));
        Check.dueThrow("place 4", Check.OUTSIDE, () -> press.license(0, 4));
        Check.dueRefusal(press, 4, 3, () -> press.license(0, 3));
        Check.due("the first", press.license(0, 1), 2);
        Check.due("coins", press.houseOf(0, 0), 10);
        Check.dueRefusal(press, 5, 1, () -> press.license(0, 1));
        Check.due("that of another house", press.license(2, 0), 2);
        Check.due("the second, on another sheet", press.license(1, 2), 3);
        press.edition();
        Check.dueRefusal(press, 5, 2, () -> press.license(1, 2));
        Check.due("the third, shown ones count", press.license(1, 3), 4);
        Check.due("coins", press.houseOf(0, 0), 3);
        Check.dueRefusal(press, 7, 3, () -> press.license(0, 0));
        Check.due("coins stay", press.houseOf(0, 0), 3);
        press.day();
        press.day();
        Check.due("just enough coins", press.license(0, 0), 5);
        Check.due("no coins", press.houseOf(0, 0), 0);
        Check.due("coins paid", press.account(10), 16);
    }

    private static void licenceReasonsInOrder() {
        ErrataPress press = Check.pressAfter("h20;s0=aaaaaa;m00f;m01f;m02f;m03f;l00;l01;l02;l03;e;m04b;m05b");
        Check.due("a shame of 20", press.houseOf(0, 1), 20);
        Check.due("is licensed yet", press.license(0, 4), 6);
        Check.due("no coins", press.houseOf(0, 0), 0);
        press.edition();
        Check.due("a shame of 21", press.houseOf(0, 1), 21);
        Check.dueRefusal(press, 6, 21, () -> press.license(0, 5));
        Check.dueRefusal(press, 5, 4, () -> press.license(0, 4));
        Check.runText(press, "s0=abc");
        Check.dueRefusal(press, 4, 1, () -> press.license(1, 1));
        press.day();
        Check.dueRefusal(press, 7, 1, () -> press.license(0, 5));
    }

    /** Promise 7. */
    private static void corrects() {
        ErrataPress press = Check.pressAfter("h99;h10;s0=abcdef;s1=aaa;m00f;m01d;m02d;m10f;l01;l02;e;m03f;l03;l10");
        Check.dueThrow("sheet -1", Check.OUTSIDE, () -> press.correct(-1, 0));
        Check.dueThrow("sheet 2", Check.OUTSIDE, () -> press.correct(2, 0));
        Check.dueThrow("place -1", Check.OUTSIDE, () -> press.correct(0, -1));
        Check.dueThrow("place 6", Check.OUTSIDE, () -> press.correct(0, 6));
        Check.dueRefusal(press, 4, 5, () -> press.correct(0, 5));
        int coins = press.houseOf(0, 0);
        Check.due("a plain one", press.correct(0, 0), 6);
        Check.due("a licensed one", press.correct(0, 3), 5);
        Check.due("a shown one", press.correct(0, 1), 10);
        Check.due("the coins", press.houseOf(0, 0), coins - 21);
        Check.due("the fines", press.houseOf(0, 6), 21);
        Check.due("the shame stays", press.houseOf(0, 1), 3);
        Check.due("the line", Check.lineOf(press, 0), "0:abD!def");
        Check.due("what a licence costs", press.houseOf(0, 5), 3);
        Check.due("just enough coins", press.correct(1, 0), 8);
        Check.due("no coins", press.houseOf(1, 0), 0);
        press.set(1, 0, 'b');
        press.day();
        Check.dueRefusal(press, 7, 1, () -> press.correct(1, 0));
        Check.due("it stays", Check.lineOf(press, 1), "1:Baa");
        Check.due("all fines", press.account(11), 29);
    }

    /** Promise 8. */
    private static void readers() {
        ErrataPress press = new ErrataPress();
        Check.dueThrow("kind -1", Check.ILLEGAL, () -> press.reader(-1, 1));
        Check.dueThrow("kind 2", Check.ILLEGAL, () -> press.reader(2, 1));
        Check.dueThrow("taste 0", Check.ILLEGAL, () -> press.reader(0, 0));
        Check.dueThrow("taste 7", Check.ILLEGAL, () -> press.reader(1, 7));
        Check.dueThrow("taste most", Check.ILLEGAL, () -> press.reader(1, MOST));
        for (int k = 0; k < 5; k++) {
            Check.due("the number", press.reader(k % 2, k + 1 + k % 2), k);
            Check.due("how many", press.account(2), k + 1);
        }
        Check.dueThrow("a sixth of kind 2", Check.ILLEGAL, () -> press.reader(2, 1));
        Check.dueThrow("a sixth of taste 0", Check.ILLEGAL, () -> press.reader(1, 0));
        Check.dueRefusal(press, 1, 5, () -> press.reader(0, 1));
    }

    /** Promise 9. */
    private static void editions() {
        ErrataPress press = Check.pressAfter("h20;h30;s0=aaa;s1=fff;m00d;m01f;m10a;m11e;r04;r13;r15;r01");
        Check.dueRefusal(press, 8, 0, press::edition);
        Check.runText(press, "l00;l10;l11");
        Check.due("the laughs", press.edition(), 2 + 3);
        Check.due("coins of 0", press.houseOf(0, 0), 18 + 2);
        Check.due("coins of 1", press.houseOf(1, 0), 25 + 3);
        Check.due("shame of 0", press.houseOf(0, 1), 3);
        Check.due("shame of 1", press.houseOf(1, 1), 6);
        Check.due("the marks", press.markAt(0, 0) * 1000 + press.markAt(0, 1) * 100 + press.markAt(0, 2) * 10
            + press.markAt(1, 0), 3103);
        Check.due("printed", press.account(8), 3);
        Check.due("laughs", press.account(9), 5);
        Check.due("editions", press.account(4), 1);
        Check.dueRefusal(press, 8, 1, press::edition);
        Check.due("editions stay", press.account(4), 1);
        press.license(0, 1);
        Check.due("the second edition prints just the new one", press.edition(), 2);
        Check.due("shame of 0", press.houseOf(0, 1), 8);
        Check.due("shame of 1 stays", press.houseOf(1, 1), 6);
        Check.due("laughs", press.account(9), 7);
        Check.due("printed", press.account(8), 4);
        press.set(0, 0, 'b');
        Check.dueRefusal(press, 8, 2, press::edition);
        press.license(0, 0);
        Check.due("what is set anew is printed anew", press.edition(), 0);
        Check.due("printed", press.account(8), 5);
    }

    private static void editionsFillUp() {
        ErrataPress press = Check.pressAfter("h99;s0=aaaaaaaa;r11;r11;r11;r11;r11;m00f;m01f;m02f;l00;l01;l02;d;d;d;d;d;d");
        Check.due("the coins", press.houseOf(0, 0), 96);
        Check.due("the laughs", press.edition(), 15);
        Check.due("the coins are 99", press.houseOf(0, 0), 99);
        Check.due("all laughs count", press.account(9), 15);
    }

    /** A shame of more than 20 forbids licences, so what makes it 99 is licensed ahead of one edition. */
    private static void shameFillsUp() {
        ErrataPress press = Check.pressAfter("h99;s0=aaaaaaaa;s0=aaaaaaaa;s0=aaaaaaaa");
        int coins = 99;
        for (int k = 0; k < 20; k++) {
            int cost = 2 + k;
            for (; coins < cost; coins++) {
                press.day();
            }
            press.set(k / 8, k % 8, 'f');
            Check.due("the cost", press.license(k / 8, k % 8), cost);
            coins -= cost;
        }
        Check.due("the shame to come", press.wouldShame(0), 99);
        press.edition();
        Check.due("the shame", press.houseOf(0, 1), 99);
        Check.due("the days till it is calm", press.calmIn(0), 79);
        Check.due("the line", Check.houseLineOf(press, 0), "0$" + coins + "~99*");
    }

    /** Promise 10. */
    private static void days() {
        ErrataPress press = new ErrataPress();
        Check.due("a day without houses", press.day(), 0);
        Check.runText(press, "h98;h30;h20;s1=aaaaaa;m00f;m01f;m02f;m03f;m04b;s2=aaa;m10b");
        Check.runText(press, "l00;l01;l02;l03;l04;l10;e");
        Check.due("the shame of 1", press.houseOf(1, 1), 21);
        Check.due("the shame of 2", press.houseOf(2, 1), 1);
        Check.due("a day", press.day(), 0);
        Check.due("the shame of 1", press.houseOf(1, 1), 20);
        Check.due("the shame of 2", press.houseOf(2, 1), 0);
        Check.due("the coins of 0", press.houseOf(0, 0), 99);
        Check.due("the coins of 1", press.houseOf(1, 0), 11);
        Check.due("a day", press.day(), 0);
        Check.due("the coins of 0 stay", press.houseOf(0, 0), 99);
        Check.due("the shame of 2 stays", press.houseOf(2, 1), 0);
        Check.due("the days", press.account(3), 3);
        press.set(0, 5, 'e');
        press.license(0, 5);
        press.edition();
        Check.due("the shame of 1", press.houseOf(1, 1), 23);
        Check.due("a day", press.day(), 1);
        Check.due("a day", press.day(), 1);
        Check.due("a day", press.day(), 0);
    }

    /** Promise 11. */
    private static void numbersOfHouses() {
        ErrataPress press = Check.pressAfter("h40;h9;s1=abc;s0=abcdef;s0=fff;m10f;m11a;m12a;m20a;m21a;l10;l20;e;l21;m00f;c10");
        Check.dueThrow("house -1", Check.OUTSIDE, () -> press.houseOf(-1, 0));
        Check.dueThrow("house 2", Check.OUTSIDE, () -> press.houseOf(2, 0));
        Check.dueThrow("house 2, 7", Check.OUTSIDE, () -> press.houseOf(2, 7));
        Check.dueThrow("7", Check.ILLEGAL, () -> press.houseOf(0, 7));
        Check.dueThrow("-1", Check.ILLEGAL, () -> press.houseOf(1, -1));
        int[] due = {40 - 2 - 3 - 4 - 16, 10, 2, 4, 2, 4, 16};
        int[] dueOfOther = {9, 0, 1, 1, 0, 2, 0};
        for (int what = 0; what <= 6; what++) {
            Check.due("house 0, " + what, press.houseOf(0, what), due[what]);
            Check.due("house 1, " + what, press.houseOf(1, what), dueOfOther[what]);
        }
        press.take(2);
        Check.due("the fines stay", press.houseOf(0, 6), 16);
        Check.due("the sheets", press.houseOf(0, 2), 1);
    }

    /** Promise 12. */
    private static void numbersOfSheets() {
        ErrataPress press = Check.pressAfter("h40;h40;s0=abc;s1=abcdef;m10f;m12a;m13a;m14f;l10;l12;e;l13");
        Check.dueThrow("sheet -1", Check.OUTSIDE, () -> press.sheetOf(-1, 0));
        Check.dueThrow("sheet 2", Check.OUTSIDE, () -> press.sheetOf(2, 0));
        Check.dueThrow("sheet 2, 6", Check.OUTSIDE, () -> press.sheetOf(2, 6));
        Check.dueThrow("6", Check.ILLEGAL, () -> press.sheetOf(0, 6));
        Check.dueThrow("-1", Check.ILLEGAL, () -> press.sheetOf(0, -1));
        int[] dueOfFirst = {0, 3, 0, 0, 0, 0};
        int[] due = {1, 6, 4, 3, 2, 5 + 2 + 3 + 1};
        for (int what = 0; what <= 5; what++) {
            Check.due("sheet 0, " + what, press.sheetOf(0, what), dueOfFirst[what]);
            Check.due("sheet 1, " + what, press.sheetOf(1, what), due[what]);
        }
    }

    /** Promise 13. */
    private static void letters() {
        ErrataPress press = Check.pressAfter("h40;s0=abcdef;s0=fed;m03a;m12f");
        String right = "abcdef";
        String set = "abcaef";
        for (int place = 0; place < 6; place++) {
            Check.due("right " + place, press.letterAt(0, place, true), right.charAt(place));
            Check.due("set " + place, press.letterAt(0, place, false), set.charAt(place));
        }
        Check.due("right on 1", press.letterAt(1, 2, true), 'd');
        Check.due("set on 1", press.letterAt(1, 2, false), 'f');
        Check.dueThrow("sheet 2", Check.OUTSIDE, () -> press.letterAt(2, 0, true));
        Check.dueThrow("sheet -1", Check.OUTSIDE, () -> press.letterAt(-1, 0, false));
        Check.dueThrow("place -1", Check.OUTSIDE, () -> press.letterAt(1, -1, false));
        Check.dueThrow("place 3 of 3", Check.OUTSIDE, () -> press.letterAt(1, 3, true));
        Check.dueThrow("place 6 of 6", Check.OUTSIDE, () -> press.letterAt(0, 6, true));
    }

    /** Promise 14. */
    private static void marks() {
        ErrataPress press = Check.pressAfter("h40;s0=abcdef;m00f;l00;e;m01f;l01;m02f");
        int[] due = {3, 2, 1, 0, 0, 0};
        for (int place = 0; place < 6; place++) {
            Check.due("mark " + place, press.markAt(0, place), due[place]);
        }
        press.correct(0, 0);
        Check.due("corrected", press.markAt(0, 0), 0);
        press.set(0, 0, 'f');
        Check.due("wrong again", press.markAt(0, 0), 1);
        Check.dueThrow("sheet 1", Check.OUTSIDE, () -> press.markAt(1, 0));
        Check.dueThrow("sheet -1", Check.OUTSIDE, () -> press.markAt(-1, 0));
        Check.dueThrow("place -1", Check.OUTSIDE, () -> press.markAt(0, -1));
        Check.dueThrow("place 6", Check.OUTSIDE, () -> press.markAt(0, 6));
    }
}
