import java.util.function.Consumer;

/** Promises 33 to 39. */
public final class AccountsAndUndoTest {
    public static void main(String[] args) {
        accounts();
        wells();
        meanShames();
        errorShares();
        undoesEach();
        undoesEight();
        undoForgets();
        saves();
        restoresEach();
        restoresPlaces();
        restoreForgets();
        Check.finish();
    }

    private static void dueAccounts(ErrataPress press, int... due) {
        for (int what = 0; what < due.length; what++) {
            Check.due("account " + what, press.account(what), due[what]);
        }
    }

    /** Promise 33. */
    private static void accounts() {
        ErrataPress press = new ErrataPress();
        Check.dueThrow("account -1", Check.ILLEGAL, () -> press.account(-1));
        Check.dueThrow("account 15", Check.ILLEGAL, () -> press.account(15));
        Check.runText(press, "h30;h40;s0=aaa;s1=aaaa;s1=ffff;r11;r12;r06");
        dueAccounts(press, 2, 3, 3, 0, 0, 0, 0, 0, 0, 0, 0, 0, 70, 0, 1);
        Check.runText(press, "m00b;m01f;m10f;m23a;m22e;l00;l01;l23;e");
        Check.type(press, "abc");
        dueAccounts(press, 2, 3, 3, 0, 1, 5, 3, 3, 3, 6, 7, 0, 69, 3, 2);
        press.license(1, 0);
        press.day();
        press.day();
        press.correct(0, 0);
        press.correct(2, 2);
        dueAccounts(press, 2, 3, 3, 2, 1, 3, 3, 2, 3, 6, 10, 10, 60, 3, 7);
        press.edition();
        dueAccounts(press, 2, 3, 3, 2, 2, 3, 3, 3, 4, 9, 10, 10, 63, 3, 8);
        press.take(0);
        press.take(0);
        press.take(0);
        dueAccounts(press, 2, 0, 3, 2, 2, 0, 0, 0, 4, 9, 10, 10, 63, 3, 8);
    }

    /** Promise 34: the state can't be made unwell from outside, so it is well all the way. */
    private static void wells() {
        ErrataPress press = new ErrataPress();
        Check.due("a new press", press.isWell(), true);
        String[] texts = {"h30;h40;s0=aaa;s1=aaaa;s1=ffff;r11;r12;r06", "m00b;m01f;m10f;m23a", "l00;l23", "e", "l01", "m00c",
            "c23", "d", "e", "m23b", "l23", "x0", "x1", "e", "x0"};
        for (String text : texts) {
            try {
                Check.runText(press, text);
            } catch (UnsupportedOperationException e) {
                // The second-last edition has nothing to print.
            }
            Check.due("well behind " + text, press.isWell(), true);
        }
    }

    /** Promise 35. */
    private static void meanShames() {
        ErrataPress press = new ErrataPress();
        Check.dueThrow("no houses", Check.ARITHMETIC, press::meanShame);
        press.house(9);
        Check.due("one house", press.meanShame(), 0.0);
        Check.runText(press, "h9;h9;s0=aaa;s2=aaa;m00f;l00;m10c;m11b;l10;e");
        Check.due("three houses", press.meanShame(), 7.0 / 3.0);
        press.house(3);
        Check.due("four houses", press.meanShame(), 1.75);
    }

    /** Promise 36. */
    private static void errorShares() {
        ErrataPress press = new ErrataPress();
        Check.dueThrow("no houses", Check.ARITHMETIC, press::errorShare);
        press.house(9);
        Check.dueThrow("no sheets", Check.ARITHMETIC, press::errorShare);
        Check.runText(press, "s0=aaa;s0=abcd");
        Check.due("all is right", press.errorShare(), 0.0);
        Check.runText(press, "m00f;m11f;m12f;l11");
        Check.due("three of seven", (double) press.errorShare(), (double) (3f / 7f));
        Check.runText(press, "e");
        Check.due("shown ones count", (double) press.errorShare(), (double) (3f / 7f));
        Check.runText(press, "m01f;m02f;x1");
        Check.due("all is wrong", press.errorShare(), 1.0);
        press.take(0);
        Check.dueThrow("no sheets left", Check.ARITHMETIC, press::errorShare);
    }

    /** Promise 37: each change is undone. */
    private static void undoesEach() {
        dueUndone(press -> press.house(5));
        dueUndone(press -> press.sheet(1, 123));
        dueUndone(press -> press.take(0));
        dueUndone(press -> press.take(2));
        dueUndone(press -> press.set(0, 0, 'e'));
        dueUndone(press -> press.set(1, 1, 'e'));
        dueUndone(press -> press.set(0, 1, 'e'));
        dueUndone(press -> press.license(2, 0));
        dueUndone(press -> press.correct(0, 0));
        dueUndone(press -> press.correct(1, 0));
        dueUndone(press -> press.reader(0, 1));
        dueUndone(ErrataPress::edition);
        dueUndone(ErrataPress::day);
        dueUndone(press -> Check.runText(press, "d;h1;x0;x0;m01b;l01;e;c01;r06;s2=abcdef"));
    }

    /** A day goes by ahead of the change, so that what is undone is not what the change before had kept. */
    private static void dueUndone(Consumer<ErrataPress> change) {
        ErrataPress press = Check.pressAfter("h30;h40;s0=aaa;s1=aaaa;s1=ffff;r11;r12;m00f;m10f;l00;e;l10;m20a");
        press.day();
        String ahead = Check.picture(press);
        int changes = press.account(14);
        change.accept(press);
        Check.due("there is a change", press.account(14), changes + 1);
        Check.due("something changes", Check.picture(press).equals(ahead), false);
        Check.due("the undo", press.undo(), changes);
        Check.due("all is as it was", Check.picture(press), ahead);
    }

    private static void undoesEight() {
        ErrataPress press = new ErrataPress();
        press.house(0);
        for (int day = 0; day < 12; day++) {
            press.day();
            Check.due("changes", press.account(14), Math.min(8, day + 2));
        }
        for (int day = 11; day >= 4; day--) {
            Check.due("the undo", press.undo(), day - 4);
            Check.due("the days", press.account(3), day);
            Check.due("the house", Check.houseLineOf(press, 0), "0$" + day + "~0");
        }
        Check.dueThrow("a ninth", Check.STATE, press::undo);
        Check.due("the days", press.account(3), 4);
        press.day();
        press.reader(1, 1);
        Check.due("the undo", press.undo(), 1);
        Check.due("the days", press.account(3), 5);
        Check.due("the undo", press.undo(), 0);
        Check.due("the days", press.account(3), 4);
    }

    /** What is no change, or no successful one, is not undone. */
    private static void undoForgets() {
        ErrataPress press = Check.pressAfter("h1");
        press.sheet(0, 123);
        press.day();
        Check.dueThrow("no correction", Check.REFUSED, () -> press.correct(0, 0));
        Check.dueThrow("no sheet", Check.OUTSIDE, () -> press.take(1));
        Check.dueThrow("no coins", Check.ILLEGAL, () -> press.house(100));
        Check.type(press, "h1;e");
        Check.dueThrow("no run", Check.REFUSED, press::run);
        Check.type(press, "h1;q");
        Check.dueThrow("no text", Check.ILLEGAL, press::run);
        Check.type(press, "h1;x7");
        Check.dueThrow("no order", Check.ILLEGAL, press::run);
        press.save();
        press.line(0);
        Check.type(press, "h");
        Check.due("three changes", press.account(14), 3);
        Check.due("the undo", press.undo(), 2);
        Check.due("the days", press.account(3), 0);
        Check.due("the input stays", press.account(13), 1);
        Check.due("the undo", press.undo(), 1);
        Check.due("no sheets", press.account(1), 0);
        Check.due("the undo", press.undo(), 0);
        Check.due("no houses", press.account(0), 0);
        Check.dueThrow("no more", Check.STATE, press::undo);
    }

    /** Promises 38 and 39. */
    private static void saves() {
        ErrataPress press = new ErrataPress();
        Check.dueThrow("no snapshot", Check.STATE, press::restore);
        Check.due("an empty one", press.save(), 0);
        Check.runText(press, "h30;h40;s0=aaa;m00f;l00;e;r11");
        Check.due("the empty one", press.restore(), 0);
        for (int what = 0; what <= 14; what++) {
            Check.due("account " + what, press.account(what), 0);
        }
        Check.runText(press, "h20;s0=abc");
        Check.due("one in place of the empty one", press.save(), 1);
        press.take(0);
        Check.due("it is back", press.restore(), 1);
        Check.due("its line", Check.lineOf(press, 0), "0:abc");
    }

    /** Each change is taken back by restore, which can be called again. */
    private static void restoresEach() {
        dueRestored(press -> press.house(5));
        dueRestored(press -> press.sheet(1, 123));
        dueRestored(press -> press.take(0));
        dueRestored(press -> press.set(1, 1, 'e'));
        dueRestored(press -> press.license(2, 0));
        dueRestored(press -> press.correct(0, 0));
        dueRestored(press -> press.reader(0, 1));
        dueRestored(ErrataPress::edition);
        dueRestored(ErrataPress::day);
        dueRestored(press -> Check.runText(press, "d;h1;x0;x0;m01b;l01;e;c01;r06;s2=abcdef"));
        dueRestored(ErrataPress::undo);
    }

    private static void dueRestored(Consumer<ErrataPress> change) {
        ErrataPress press = Check.pressAfter("h30;h40;s0=aaa;s1=aaaa;s1=ffff;r11;r12;m00f;m10f;l00;e;l10;m20a");
        press.day();
        String full = Check.picture(press);
        Check.due("a full one", press.save(), 3);
        change.accept(press);
        Check.type(press, "hh");
        Check.due("the full one", press.restore(), 3);
        Check.due("is back", Check.picture(press), full);
        Check.due("the input stays", press.account(13), 2);
        Check.due("nothing is to be undone", press.account(14), 0);
        press.take(1);
        Check.due("the full one again", press.restore(), 3);
        Check.due("has its second sheet", Check.lineOf(press, 1), "1:F'aaa");
    }

    /** All that is in a snapshot comes back, though something else has come to its place. */
    private static void restoresPlaces() {
        ErrataPress press = new ErrataPress();
        Check.runText(press, "h30;s0=aaa;r05;r12;m00f;m01e");
        String full = Check.picture(press);
        press.save();
        press.undo();
        Check.runText(press, "h99;h40;s1=ffff;r11;r06;r06;m03a;l03;e");
        Check.due("another one", Check.lineOf(press, 0), "1:fffA!");
        Check.due("the snapshot", press.restore(), 1);
        Check.due("is back", Check.picture(press), full);
    }

    private static void restoreForgets() {
        ErrataPress press = Check.pressAfter("h30");
        press.sheet(0, 123);
        press.set(0, 0, 'f');
        press.save();
        Check.due("a save forgets nothing", press.undo(), 2);
        Check.due("a sheet that is right", press.account(5), 0);
        Check.due("a restore", press.restore(), 1);
        Check.due("a sheet that is wrong", press.account(5), 1);
        Check.due("nothing is left to undo", press.account(14), 0);
        Check.dueThrow("undo", Check.STATE, press::undo);
        press.day();
        Check.due("a change behind it", press.undo(), 0);
        Check.due("a sheet that is wrong", press.account(5), 1);
        Check.dueThrow("undo", Check.STATE, press::undo);
    }
}
