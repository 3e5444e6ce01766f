/** Promises 24 to 32. */
public final class OrdersAndTextsTest {
    public static void main(String[] args) {
        ashamed();
        worst();
        lines();
        houseLines();
        lineStays();
        appends();
        runs();
        runsRefused();
        runsThatFail();
        errorPositions();
        everySign();
        refusals();
        Check.finish();
    }

    /** Promise 24. */
    private static void ashamed() {
        ErrataPress press = new ErrataPress();
        Check.dueThrow("no house", Check.NO_ELEMENT, () -> press.ashamed(0));
        Check.runText(press, "h9;h30;h9;h30;s1=aaa;m00c;l00;s3=aaa;m10c;l10;e;d;s2=aaa");
        dueHouses(press, 1, 3, 0, 2);
        Check.runText(press, "m20b;l20;d");
        dueHouses(press, 2, 0, 1, 3);
        press.edition();
        dueHouses(press, 2, 0, 1, 3);
        Check.runText(press, "m01f;l01;e");
        dueHouses(press, 1, 2, 0, 3);
        Check.dueThrow("place 4", Check.NO_ELEMENT, () -> press.ashamed(4));
        Check.dueThrow("place -1", Check.NO_ELEMENT, () -> press.ashamed(-1));
    }

    private static void dueHouses(ErrataPress press, int... houses) {
        for (int place = 0; place < houses.length; place++) {
            Check.due("the house at " + place, press.ashamed(place), houses[place]);
        }
    }

    /** Promise 25. */
    private static void worst() {
        ErrataPress press = new ErrataPress();
        Check.dueThrow("no sheet", Check.NO_ELEMENT, () -> press.worst(0));
        Check.runText(press, "h99;s0=aaa;s0=aaa;s0=aaa;s0=aaa");
        dueSheets(press, 0, 1, 2, 3);
        Check.runText(press, "m10c;m20b;m21b;m30d");
        dueSheets(press, 3, 2, 1, 0);
        Check.runText(press, "m00b;m02b");
        dueSheets(press, 3, 0, 2, 1);
        press.take(0);
        dueSheets(press, 2, 1, 0);
        Check.dueThrow("place 3", Check.NO_ELEMENT, () -> press.worst(3));
        Check.dueThrow("place -1", Check.NO_ELEMENT, () -> press.worst(-1));
    }

    private static void dueSheets(ErrataPress press, int... sheets) {
        for (int place = 0; place < sheets.length; place++) {
            Check.due("the sheet at " + place, press.worst(place), sheets[place]);
        }
    }

    /** Promise 26. */
    private static void lines() {
        ErrataPress press = Check.pressAfter("h9;h99;s1=aaca;s1=abcdefab;s0=fff;m01b;l01;m03d;m10f;m11a;m17f;l17");
        Check.due("sheet 0", Check.lineOf(press, 0), "1:aB'cD");
        Check.due("sheet 1", Check.lineOf(press, 1), "1:FAcdefaF'");
        Check.due("sheet 2", Check.lineOf(press, 2), "0:fff");
        Check.runText(press, "e;l03");
        Check.due("sheet 0, printed", Check.lineOf(press, 0), "1:aB!cD'");
        Check.runText(press, "e;m01e");
        Check.due("sheet 0, printed", Check.lineOf(press, 0), "1:aEcD!");
        Check.dueThrow("sheet 3", Check.OUTSIDE, () -> press.line(3));
        Check.dueThrow("sheet -1", Check.OUTSIDE, () -> press.line(-1));
        Check.due("the line stays", Check.written(press, 7), "1:aEcD!");
        longestLine();
    }

    private static void longestLine() {
        ErrataPress press = Check.pressAfter("h99;s0=aaaaaaaa;m00b;m01b;m02b;m03b;m04b;m05b;m06b;m07b;l00;l01;l02;l03;l04;l05;l06;l07");
        Check.due("the longest line", Check.lineOf(press, 0), "0:B'B'B'B'B'B'B'B'");
        press.edition();
        Check.due("the longest line", Check.lineOf(press, 0), "0:B!B!B!B!B!B!B!B!");
    }

    /** Promise 27. */
    private static void houseLines() {
        ErrataPress press = Check.pressAfter("h0;h99;h10;h9;s1=aaaaa;m00f;m01f;m02f;m03f;m04b;l00;l01;l02;l03;e");
        Check.due("house 0", Check.houseLineOf(press, 0), "0$0~0");
        Check.due("house 1", Check.houseLineOf(press, 1), "1$85~20");
        Check.due("house 2", Check.houseLineOf(press, 2), "2$10~0");
        Check.due("house 3", Check.houseLineOf(press, 3), "3$9~0");
        Check.runText(press, "l04;e");
        Check.due("house 1, ashamed", Check.houseLineOf(press, 1), "1$79~21*");
        press.day();
        Check.due("house 1, calm", Check.houseLineOf(press, 1), "1$80~20");
        Check.dueThrow("house 4", Check.OUTSIDE, () -> press.houseLine(4));
        Check.dueThrow("house -1", Check.OUTSIDE, () -> press.houseLine(-1));
    }

    /** Promise 28. */
    private static void lineStays() {
        ErrataPress press = new ErrataPress();
        Check.dueThrow("no line", Check.OUTSIDE, () -> press.character(0));
        Check.dueThrow("no line", Check.OUTSIDE, () -> press.character(-1));
        Check.runText(press, "h5;s0=abcdef");
        Check.due("the length", press.line(0), 8);
        Check.due("the length", press.houseLine(0), 5);
        Check.dueThrow("behind a shorter line", Check.OUTSIDE, () -> press.character(5));
        Check.dueThrow("ahead of the line", Check.OUTSIDE, () -> press.character(-1));
        Check.dueThrow("far behind", Check.OUTSIDE, () -> press.character(Integer.MAX_VALUE));
        press.save();
        press.line(0);
        press.restore();
        Check.due("the line is not restored", Check.written(press, 8), "0:abcdef");
        press.day();
        press.houseLine(0);
        press.undo();
        Check.due("the line is not undone", Check.written(press, 5), "0$6~0");
    }

    /** Promise 29. */
    private static void appends() {
        ErrataPress press = new ErrataPress();
        for (int k = 1; k <= 60; k++) {
            Check.due("the characters", press.append((char) (k * 1000)), k);
            Check.due("the account", press.account(13), k);
        }
        Check.dueThrow("one more", Check.STATE, () -> press.append('e'));
        Check.dueThrow("one more", Check.STATE, () -> press.append('e'));
        Check.due("the account", press.account(13), 60);
        Check.dueThrow("no text", Check.ILLEGAL, press::run);
        Check.due("the input is empty", press.append('e'), 1);
    }

    /** Promise 30. */
    private static void runs() {
        ErrataPress press = new ErrataPress();
        Check.due("houses", Check.runText(press, "h7;h07;h70;h99"), 4);
        Check.due("the coins", press.houseOf(0, 0) + 100 * press.houseOf(1, 0), 707);
        Check.due("the coins", press.houseOf(2, 0) + 100 * press.houseOf(3, 0), 9970);
        Check.due("the input is empty", press.account(13), 0);
        Check.due("sheets", Check.runText(press, "s2=abc;s3=fedcbafe;s0=aabb;x0"), 4);
        Check.due("sheet 0", Check.lineOf(press, 0), "3:fedcbafe");
        Check.due("sheet 1", Check.lineOf(press, 1), "0:aabb");
        Check.due("letters", Check.runText(press, "m07a;m00b;l00;c07;m01f;r12;r06"), 7);
        Check.due("sheet 0", Check.lineOf(press, 0), "3:B'Fdcbafe");
        Check.due("who laughs", press.laughing(0, 0) + 10 * press.laughing(0, 1), 21);
        Check.due("an edition and a day", Check.runText(press, "e;d"), 2);
        Check.due("the house", Check.houseLineOf(press, 3), "3$94~3");
        Check.due("accounts", press.account(4) + press.account(3) * 10 + press.account(14) * 100, 411);
        Check.due("no error", press.errorPosition(), -1);
        Check.due("thirty orders", Check.runText(press, "d;".repeat(29) + "d"), 30);
        Check.due("thirty-one days", press.account(3), 31);
        Check.due("one change", press.account(14), 5);
        press.undo();
        Check.due("one undo", press.account(3), 1);
        Check.due("sixty characters", Check.runText(press, "d;".repeat(27) + "s0=abc"), 28);
    }

    private static void dueRunRefused(ErrataPress press, String text, int order, int reason, int detail) {
        String ahead = Check.picture(press);
        int changes = press.account(14);
        Check.type(press, text);
        Check.dueThrow(text, Check.REFUSED, press::run);
        Check.due("no error in " + text, press.errorPosition(), -1);
        Check.due("the reason", press.refusal(false, false), 9);
        Check.due("the order", press.refusal(false, true), order);
        Check.due("the reason behind", press.refusal(true, false), reason);
        Check.due("the detail behind", press.refusal(true, true), detail);
        Check.due("nothing is changed", Check.picture(press), ahead);
        Check.due("nothing is to be undone", press.account(14), changes);
        Check.due("the input is empty", press.account(13), 0);
    }

    private static void dueRefused(String text, int order, int reason, int detail) {
        ErrataPress press = Check.pressAfter("h3;h99;s0=abc;s1=aaaaaaaa;r11;r11;r11;r11;m00f");
        dueRunRefused(press, text, order, reason, detail);
    }

    private static void runsRefused() {
        dueRefused("e", 0, 8, 0);
        dueRefused("d;l00;d;e;e", 4, 8, 1);
        dueRefused("h1;h2;d;h3", 3, 1, 4);
        dueRefused("x0;m00f;m00f", 2, 2, 0);
        dueRefused("r11;r11", 1, 1, 5);
        dueRefused("s1=abc;s1=abc;s1=abc;s1=abc;s1=abc;s1=abc;s1=abc;h5", 6, 1, 8);
        dueRefused("d;m02c", 1, 2, 2);
        dueRefused("m02d;m02c", 1, 3, 2);
        dueRefused("l01", 0, 4, 1);
        dueRefused("l00;l00", 1, 5, 0);
        dueRefused("l00;m01f;l01", 2, 7, 1);
        dueRefused("d;d;c00", 2, 7, 5);
        dueRefused("c01;x9", 0, 4, 1);
        dueRefused("m10f;m11f;m12f;m13f;m14f;l10;l11;l12;l13;l14;e;m15f;l15", 12, 6, 25);
    }

    private static void dueRunFails(ErrataPress press, String text, int position) {
        String ahead = Check.picture(press);
        int changes = press.account(14);
        Check.type(press, text);
        Check.dueThrow(text, Check.ILLEGAL, press::run);
        Check.due("the error of " + text, press.errorPosition(), position);
        Check.due("nothing is changed", Check.picture(press), ahead);
        Check.due("nothing is to be undone", press.account(14), changes);
        Check.due("the input is empty", press.account(13), 0);
    }

    private static void dueFailure(String text, int position) {
        dueRunFails(Check.pressAfter("h9;s0=abcd"), text, position);
    }

    private static void runsThatFail() {
        String[] texts = {"s1=abc", "s9=abc", "m10a", "m04a", "m09a", "l10", "l04", "c10", "c04", "c99", "r21", "r91",
            "r00", "r07", "x1", "x9", "d;x0;x0", "d;d;m90f;h1;h1;h1;h1", "h1;h1;h1;s4=abc;h1"};
        for (String text : texts) {
            dueFailure(text, -1);
            dueFailure("d;" + text + ";d", -1);
        }
        ErrataPress press = Check.pressAfter("h9;s0=abcd");
        Check.dueRefusal(press, 8, 0, press::edition);
        dueRunFails(press, "d;x1", -1);
        Check.due("the reason stays", press.refusal(false, false), 8);
        Check.dueThrow("nothing stands behind", Check.NO_ELEMENT, () -> press.refusal(true, false));
        dueRunRefused(press, "h1;h1;h1;h1;s9=abc", 3, 1, 4);
        dueRunFails(press, "h1;h1;h1;s9=abc;h1", -1);
        Check.due("the reason stays", press.refusal(true, false), 1);
    }

    /** Promise 31. */
    private static void errorPositions() {
        dueFailure("", 0);
        dueFailure(";", 0);
        dueFailure("d;", 2);
        dueFailure("d;;d", 2);
        dueFailure("dd", 1);
        dueFailure("d;ed", 3);
        dueFailure("d d", 1);
        dueFailure("h", 1);
        dueFailure("h-1", 1);
        dueFailure("h;", 1);
        dueFailure("h123", 3);
        dueFailure("h1a", 2);
        dueFailure("s", 1);
        dueFailure("sa", 1);
        dueFailure("s0", 2);
        dueFailure("s00=abc", 2);
        dueFailure("s0=", 3);
        dueFailure("s0=ab", 5);
        dueFailure("s0=ab;d", 5);
        dueFailure("s0=abg", 5);
        dueFailure("s0=abA", 5);
        dueFailure("s0=abcdefab;", 12);
        dueFailure("s0=abcdefaba", 11);
        dueFailure("s0=abcg", 6);
        dueFailure("m", 1);
        dueFailure("m0", 2);
        dueFailure("m00", 3);
        dueFailure("m00g", 3);
        dueFailure("m00ff", 4);
        dueFailure("m000", 3);
        dueFailure("l0", 2);
        dueFailure("l000", 3);
        dueFailure("l00a", 3);
        dueFailure("c", 1);
        dueFailure("ca", 1);
        dueFailure("r1", 2);
        dueFailure("r111", 3);
        dueFailure("x", 1);
        dueFailure("x00", 2);
        dueFailure("e1", 1);
        dueFailure("d;e1", 3);
        dueFailure("D", 0);
        dueFailure("a", 0);
        dueFailure("x9;h1;q", 6);
        dueFailure("d;".repeat(30), 60);
        dueFailure("d;".repeat(28) + "h1;m", 60);
        dueFailure("d;".repeat(28) + "h1;;", 59);
        ErrataPress press = new ErrataPress();
        dueRunFails(press, "h1;s0=ab", 8);
        press.day();
        press.undo();
        Check.due("the position stays", press.errorPosition(), 8);
        Check.runText(press, "d");
        Check.due("the position is gone", press.errorPosition(), -1);
    }

    /** Of all characters just these can begin a text, or go on behind these beginnings. */
    private static void everySign() {
        dueSigns("", "hsmlcrxed");
        dueSigns("d;", "hsmlcrxed");
        dueSigns("d", ";");
        dueSigns("h", "0123456789");
        dueSigns("h1", "0123456789;");
        dueSigns("h11", ";");
        dueSigns("s", "0123456789");
        dueSigns("s0", "=");
        dueSigns("s0=", "abcdef");
        dueSigns("s0=ab", "abcdef");
        dueSigns("s0=abc", "abcdef;");
        dueSigns("s0=abcdefa", "abcdef;");
        dueSigns("s0=abcdefab", ";");
        dueSigns("m", "0123456789");
        dueSigns("m0", "0123456789");
        dueSigns("m00", "abcdef");
        dueSigns("m00a", ";");
        dueSigns("l", "0123456789");
        dueSigns("c0", "0123456789");
        dueSigns("r00", ";");
        dueSigns("x", "0123456789");
        dueSigns("x0", ";");
        dueSigns("e", ";");
    }

    private static void dueSigns(String begun, String signs) {
        for (int sign = 0; sign < 400; sign++) {
            ErrataPress press = new ErrataPress();
            Check.type(press, begun + (char) sign);
            try {
                press.run();
            } catch (IllegalArgumentException | UnsupportedOperationException e) {
                // The position tells whether the sign can stand there.
            }
            boolean isFault = press.errorPosition() == begun.length();
            Check.due("'" + begun + "' and " + sign, isFault, signs.indexOf(sign) < 0);
        }
    }

    /** Promise 32. */
    private static void refusals() {
        ErrataPress press = Check.pressAfter("h9;s0=abcd;m00f");
        Check.dueThrow("nothing was refused", Check.NO_ELEMENT, () -> press.refusal(false, true));
        Check.dueThrow("nothing was refused", Check.NO_ELEMENT, () -> press.refusal(true, true));
        dueRunRefused(press, "d;d;l03", 2, 4, 3);
        Check.dueThrow("a call that fails otherwise", Check.OUTSIDE, () -> press.set(0, 4, 'a'));
        Check.due("the reason stays", press.refusal(true, true), 3);
        press.license(0, 0);
        press.undo();
        press.save();
        press.restore();
        Check.due("the reason stays yet", press.refusal(false, false), 9);
        Check.dueRefusal(press, 2, 0, () -> press.set(0, 0, 'f'));
        dueRunFails(press, "q", 0);
        Check.due("a text with an error is no refusal", press.refusal(false, false), 2);
    }
}
