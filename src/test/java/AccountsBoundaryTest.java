import java.util.List;
import java.util.function.Consumer;

/** The boundaries that promises 33 to 39 name: a test for each, whose remark tells the sentence that it holds. */
public final class AccountsBoundaryTest {
    public static void main(String[] args) {
        Check.eachTest(AccountsBoundaryTest.class);
        Check.finish();
    }

    // Promise 33

    private static void dueAccounts(ErrataPress press, int... due) {
        for (int what = 0; what < due.length; what++) {
            Check.due("account " + what, press.account(what), due[what]);
        }
    }

    /** Promise 33: "0 for the houses, 1 for the sheets, 2 for the readers, 3 for the day, 4 for the editions so far, 5
     * for the misprints, 6 for the licensed ones, 7 for the shown ones, 8 for the misprints printed so far, 9 for the
     * laughs so far, 10 for the coins paid for licences so far, 11 for the fines so far, 12 for the coins of all houses,
     * 13 for the characters in the input, 14 for the changes that can be undone" */
    static void fifteenAccounts() {
        ErrataPress press = new ErrataPress();
        dueAccounts(press, 0, 0, 0, 0, 0, 0, 0, 0, 0, 0, 0, 0, 0, 0, 0);
        Check.runText(press, "h30;h60;h0");
        Check.runText(press, "s0=aaaa;s1=aaaa");
        Check.runText(press, "r06;r11;r15;r01");
        dueAccounts(press, 3, 2, 4, 0, 0, 0, 0, 0, 0, 0, 0, 0, 90, 0, 3);
        Check.runText(press, "m00f;m01b;m02c;m10f;m11e");
        Check.runText(press, "l00;l01;l10");
        dueAccounts(press, 3, 2, 4, 0, 0, 5, 3, 0, 0, 0, 7, 0, 83, 0, 5);
        Check.due("the laughs", press.edition(), 3 + 1 + 3);
        dueAccounts(press, 3, 2, 4, 0, 1, 5, 3, 3, 3, 7, 7, 0, 90, 0, 6);
        press.license(0, 2);
        Check.type(press, "d;d");
        dueAccounts(press, 3, 2, 4, 0, 1, 5, 4, 3, 3, 7, 11, 0, 86, 3, 7);
        Check.due("the orders", press.run(), 2);
        dueAccounts(press, 3, 2, 4, 2, 1, 5, 4, 3, 3, 7, 11, 0, 92, 0, 8);
        Check.due("a fine", press.correct(0, 0) + press.correct(1, 1), 16 + 5);
        dueAccounts(press, 3, 2, 4, 2, 1, 3, 3, 2, 3, 7, 11, 21, 71, 0, 8);
        press.take(1);
        dueAccounts(press, 3, 1, 4, 2, 1, 2, 2, 1, 3, 7, 11, 21, 71, 0, 8);
        press.edition();
        dueAccounts(press, 3, 1, 4, 2, 2, 2, 2, 2, 4, 8, 11, 21, 72, 0, 8);
    }

    /** Promise 33: "12 for the coins of all houses" */
    static void coinsOfAllHouses() {
        Check.due("none", Check.pressAfter("h0;h0;h0;h0").account(12), 0);
        Check.due("four times 99", Check.pressAfter("h99;h99;h99;h99").account(12), 396);
        Check.due("each counts", Check.pressAfter("h1;h2;h4;h8").account(12), 15);
    }

    /** Promise 33: "14 for the changes that can be undone" */
    static void changesFrom0To8() {
        ErrataPress press = new ErrataPress();
        for (int changes = 0; changes <= 10; changes++) {
            Check.due("the changes", press.account(14), Math.min(8, changes));
            press.day();
        }
        press.undo();
        Check.due("one less", press.account(14), 7);
    }

    /** Promise 33: "Throws IllegalArgumentException if what is not from 0 to 14" */
    static void accountsFrom0To14() {
        Check.dueJust(15, Check.ILLEGAL, new ErrataPress()::account);
        Check.dueJust(15, Check.ILLEGAL, Check.pressAfter("h9;s0=abc")::account);
        Check.dueThrowAlone("h9;s0=abc", Check.ILLEGAL, press -> press.account(15));
    }

    // Promises 34 to 36

    /** Promise 34: "fines, what it would cost to make sheets right, and laughs are told alike by both ways, and only
     * misprints are licensed or shown" */
    static void allIsWell() {
        Check.due("a new press", new ErrataPress().isWell(), true);
        String[] texts = {"h99;h99", "s0=aaaa;s1=ffff", "m00f;m01b;m02c", "m10a;m13e", "r06;r11;r12;r01;r15", "l00;l10",
            "e", "m00e", "l00;l01", "c10", "d", "c00", "l02;e", "x0", "s1=abcdefab", "m17f;l17", "x0"};
        for (int many = 1; many <= texts.length; many++) {
            ErrataPress press = new ErrataPress();
            for (int k = 0; k < many; k++) {
                Check.runText(press, texts[k]);
            }
            dueWell(press);
            press.undo();
            Check.due("undone", press.isWell(), true);
        }
    }

    private static void dueWell(ErrataPress press) {
        Check.due("all is well", press.isWell(), true);
        Check.due("both laughs", press.wouldLaugh(true), press.wouldLaugh(false));
        for (int sheet = 0; sheet < press.account(1); sheet++) {
            Check.due("both fines of " + sheet, press.fines(sheet, true), press.fines(sheet, false));
            dueJustMisprintsMarked(press, sheet);
        }
    }

    private static void dueJustMisprintsMarked(ErrataPress press, int sheet) {
        int misprints = 0;
        int[] marks = new int[4];
        for (int place = 0; place < press.sheetOf(sheet, 1); place++) {
            marks[press.markAt(sheet, place)]++;
            misprints += press.letterAt(sheet, place, true) == press.letterAt(sheet, place, false) ? 0 : 1;
        }
        Check.due("what is marked", marks[1] + marks[2] + marks[3], misprints);
    }

    /** Promise 35: "Returns the sum divided by how many there are, both as doubles." */
    static void meansAsDoubles() {
        Check.due("one house without shame", Check.pressAfter("h9").meanShame(), 0.0);
        Check.due("one house", Check.pressWithShame(7).meanShame(), 7.0);
        ErrataPress press = Check.pressWithShame(100);
        double[] due = {99.0, 99.0 / 2.0, 99.0 / 3.0, 99.0 / 4.0};
        for (int k = 0; k < 4; k++) {
            Check.due("the mean of " + (k + 1), press.meanShame(), due[k]);
            if (k < 3) {
                press.house(0);
            }
        }
        ErrataPress third = Check.pressAfter("h9;h9;h9;s0=aaa;m00b;l00;e");
        Check.due("a third as a double", third.meanShame(), 1.0 / 3.0);
        Check.runText(third, "s2=aaa;m10b;l10;e");
        Check.due("two thirds as a double", third.meanShame(), 2.0 / 3.0);
    }

    /** Promise 35: "Returns the mean shame of the houses." */
    static void meanOfAllHouses() {
        ErrataPress press = Check.pressAfter("h9;h9;h9;h9;s0=aaa;s3=aaa;m00b;m10f;l00;l10;e");
        Check.due("of 1, 0, 0 and 5", press.meanShame(), 1.5);
        press.day();
        Check.due("of 0, 0, 0 and 4", press.meanShame(), 1.0);
        Check.due("of a house that would have some", Check.pressBeforeShame(5).meanShame(), 0.0);
    }

    /** Promise 35: "Throws ArithmeticException if there are none" */
    static void noMeanWithoutHouses() {
        ErrataPress press = new ErrataPress();
        Check.dueThrow("without houses", Check.ARITHMETIC, press::meanShame);
        press.house(0);
        Check.due("with one", press.meanShame(), 0.0);
        press.undo();
        Check.dueThrow("without it", Check.ARITHMETIC, press::meanShame);
        Check.dueThrowAlone("d", Check.ARITHMETIC, ErrataPress::meanShame);
    }

    /** Promise 36: "Returns how many are divided by how many there are, both as floats." */
    static void sharesAsFloats() {
        ErrataPress press = Check.pressAfter("h99;s0=aaa");
        float[] due = {0f, 1f / 3f, 2f / 3f, 1f};
        for (int misprints = 0; misprints <= 3; misprints++) {
            if (misprints > 0) {
                press.set(0, misprints - 1, 'b');
            }
            Check.due("the share of " + misprints, (double) press.errorShare(), (double) due[misprints]);
        }
        press.sheet(0, 12345612);
        Check.due("3 of 11", (double) press.errorShare(), (double) (3f / 11f));
        Check.runText(press, "l00;e;l01");
        Check.due("3 of 11, licensed and shown ones too", (double) press.errorShare(), (double) (3f / 11f));
        press.correct(0, 0);
        Check.due("2 of 11", (double) press.errorShare(), (double) (2f / 11f));
        press.take(0);
        Check.due("0 of 8", (double) press.errorShare(), 0.0);
        ErrataPress full = Check.pressAfter("h9;s0=aaaaaaaa;s0=aaaaaaaa;s0=aaaaaaaa;s0=aaaaaaaa;s0=aaaaaaaa;s0=aaaaaaaa;m57f");
        Check.due("1 of 48", (double) full.errorShare(), (double) (1f / 48f));
        Check.runText(full, "s0=aaaaaaaa;s0=aaaaaaaa;m77f;m70f");
        Check.due("3 of 64", (double) full.errorShare(), (double) (3f / 64f));
    }

    /** Promise 36: "Returns the share of the letters set on all sheets that are misprints." */
    static void shareOfAllSheets() {
        ErrataPress press = Check.pressAfter("h9;h9;s0=aaa;s1=aaaaa;m00f;m14f");
        Check.due("2 of 8", (double) press.errorShare(), 0.25);
        press.set(1, 3, 'b');
        Check.due("3 of 8, however bad", (double) press.errorShare(), 0.375);
        press.take(1);
        Check.due("1 of 3", (double) press.errorShare(), (double) (1f / 3f));
    }

    /** Promise 36: "Throws ArithmeticException if there are no sheets" */
    static void noShareWithoutSheets() {
        ErrataPress press = new ErrataPress();
        Check.dueThrow("without houses", Check.ARITHMETIC, press::errorShare);
        press.house(9);
        Check.dueThrow("without sheets", Check.ARITHMETIC, press::errorShare);
        press.sheet(0, 111);
        Check.due("with one", (double) press.errorShare(), 0.0);
        press.take(0);
        Check.dueThrow("without it", Check.ARITHMETIC, press::errorShare);
        Check.dueThrowAlone("h9", Check.ARITHMETIC, ErrataPress::errorShare);
    }

    // Promise 37

    /** Promise 37: "Undoes the latest change." */
    static void justTheLatestChangeIsUndone() {
        List<Consumer<ErrataPress>> changes = List.of(press -> press.house(1), press -> press.sheet(0, 1234),
            press -> press.take(0), press -> press.take(1), press -> press.set(0, 0, 'f'), press -> press.license(0, 0),
            press -> press.correct(0, 0), press -> press.correct(1, 0), press -> press.reader(1, 1),
            ErrataPress::edition, ErrataPress::day);
        for (Consumer<ErrataPress> change : changes) {
            ErrataPress press = Check.pressAfter("h50;h40;s1=aaa;s0=bcd;r12;m00e;m11f;l11;e;m10f;l10");
            press.day();
            String ahead = Check.picture(press);
            change.accept(press);
            Check.due("something is changed", Check.picture(press).equals(ahead), false);
            Check.due("the text and the day are left", press.undo(), 2);
            Check.due("and nothing else is undone", Check.picture(press), ahead);
        }
    }

    /** Promise 37: "Undoes the latest change." */
    static void theLatestTextIsUndone() {
        String[] changes = {"h1", "s0=abcd", "m00f", "m11e", "m10a", "l00", "c00", "c10", "r11", "x0", "x1", "e", "d",
            "h1;h2;s3=abc;m21f;l21;e;x0;r06;d"};
        for (String change : changes) {
            ErrataPress press = Check.pressAfter("h50;h40;s1=aaa;s0=bcd;r12;m00e;m11f;m02f;l02;e;m10f;l10");
            press.day();
            String ahead = Check.picture(press);
            Check.runText(press, change);
            Check.due("one is left", press.undo(), 2);
            Check.due("behind the undo of " + change, Check.picture(press), ahead);
        }
    }

    /** Promise 37: "Returns the number of changes that can still be undone." */
    static void changesThatCanStillBeUndone() {
        ErrataPress press = new ErrataPress();
        for (int day = 1; day <= 20; day++) {
            press.day();
        }
        for (int left = 7; left >= 3; left--) {
            Check.due("are left", press.undo(), left);
        }
        Check.due("the day", press.account(3), 15);
        for (int day = 16; day <= 19; day++) {
            press.house(day);
        }
        Check.due("the changes", press.account(14), 7);
        for (int left = 6; left >= 0; left--) {
            Check.due("are left", press.undo(), left);
            Check.due("houses", press.account(0), Math.max(0, left - 3));
            Check.due("the day", press.account(3), Math.min(15, 12 + left));
        }
    }

    /** Promise 37: "Throws IllegalStateException if no change can be undone" */
    static void noChangeCanBeUndone() {
        ErrataPress press = new ErrataPress();
        Check.dueThrow("a new press", Check.STATE, press::undo);
        press.day();
        Check.due("one", press.undo(), 0);
        Check.dueThrow("none", Check.STATE, press::undo);
        for (int day = 0; day < 9; day++) {
            press.day();
        }
        for (int left = 7; left >= 0; left--) {
            Check.due("are left", press.undo(), left);
        }
        Check.dueThrow("a ninth", Check.STATE, press::undo);
        Check.due("the day", press.account(3), 1);
        Check.dueThrow("no order", Check.REFUSED, () -> Check.runText(press, "d;e"));
        Check.dueThrow("nor the text that was refused", Check.STATE, press::undo);
    }

    // Promises 38 and 39

    /** Promise 38: "Takes a snapshot of what changes can change, in place of an earlier one." */
    static void aSnapshotInPlaceOfAnEarlierOne() {
        ErrataPress press = Check.pressAfter("h50;h40;s1=aaa;s0=bcd;r12;m00e;m11f;m02f;l02;e;m10f;l10");
        press.save();
        Check.runText(press, "x0;c00;h3;r06;r16;d;s2=fedcbafe;m17a;d");
        String ahead = Check.picture(press);
        press.save();
        Check.due("nothing is changed", Check.picture(press), ahead);
        Check.runText(press, "x1;d;x0");
        press.restore();
        Check.due("the later one", Check.picture(press), ahead);
    }

    /** Promise 38: "Takes a snapshot of what changes can change" */
    static void allThatChangesCanChangeIsInASnapshot() {
        ErrataPress press = Check.pressAfter("h50;s0=aaaa;m00f;m01d;r06;r13");
        String ahead = Check.picture(press);
        press.save();
        press.undo();
        Check.runText(press, "h9;h20;s1=bcdefa;r12;r01;r11;m00f;m05f;l00;e;c00;d");
        Check.due("all is another", Check.lineOf(press, 0), "1:bcdefF");
        press.restore();
        Check.due("the snapshot", Check.picture(press), ahead);
    }

    /** Promise 38: "Returns the sheets." */
    static void sheetsOfASnapshot() {
        ErrataPress press = Check.pressAfter("h9");
        for (int sheets = 0; sheets <= 8; sheets++) {
            Check.due("the sheets", press.save(), sheets);
            Check.due("the changes stay", press.account(14), Math.min(8, sheets + 1));
            if (sheets < 8) {
                press.sheet(0, 111);
            }
        }
        press.take(4);
        Check.due("the sheets", press.save(), 7);
    }

    /** Promise 39: "Makes everything that changes can change as it is in the snapshot, which stays." */
    static void theSnapshotStays() {
        ErrataPress press = Check.pressAfter("h50;h40;s1=aaa;s0=bcd;r12;m00e;m11f;m02f;l02;e;m10f;l10");
        String ahead = Check.picture(press);
        press.save();
        Check.runText(press, "x0;c00;h3;r06;r16;d;s2=fedcbafe;m17a;d");
        press.restore();
        Check.due("all is back", Check.picture(press), ahead);
        Check.runText(press, "e;x1;x0;d");
        press.restore();
        Check.due("all is back again", Check.picture(press), ahead);
    }

    /** Promise 39: "Returns the sheets." */
    static void sheetsThatAreBack() {
        ErrataPress press = Check.pressAfter("h9");
        for (int sheets = 0; sheets <= 8; sheets++) {
            press.save();
            if (sheets > 0) {
                press.take(0);
            }
            Check.due("the sheets", press.restore(), sheets);
            Check.due("the account", press.account(1), sheets);
            if (sheets < 8) {
                press.sheet(0, 111);
            }
        }
    }

    /** Promise 39: "Throws IllegalStateException if there is no snapshot" */
    static void noSnapshot() {
        ErrataPress press = Check.pressAfter("h9;s0=abc");
        Check.dueThrow("no snapshot", Check.STATE, press::restore);
        Check.due("the changes stay", press.account(14), 1);
        Check.due("the sheets stay", press.account(1), 1);
        press.undo();
        Check.dueThrow("nor is an undo one", Check.STATE, press::restore);
        press.save();
        Check.due("one of nothing", press.restore(), 0);
        Check.due("once more", press.restore(), 0);
        Check.dueThrow("another press has none", Check.STATE, new ErrataPress()::restore);
    }
}
