/** Promises 15 to 23. */
public final class FinesAndBargainsTest {
    public static void main(String[] args) {
        finesOfPlaces();
        finesOfSheets();
        mending();
        laughing();
        bargains();
        bargainsOfOthers();
        shameToCome();
        laughsToCome();
        nearest();
        calm();
        Check.finish();
    }

    private static ErrataPress marked() {
        return Check.pressAfter("h99;h3;s0=abcdef;s1=aaa;m00f;m01d;l00;l01;e;m02f;l02;m03a;m04a;m11c");
    }

    /** Promise 15. */
    private static void finesOfPlaces() {
        ErrataPress press = marked();
        int[] due = {(6 + 2) * 2, (3 + 2) * 2, 4 + 2, 4, 5, 0};
        for (int place = 0; place < 6; place++) {
            Check.due("fine by rules " + place, press.fine(0, place, false), due[place]);
            Check.due("fine at once " + place, press.fine(0, place, true), due[place]);
        }
        for (int k = 0; k < 2; k++) {
            boolean isAgain = k == 1;
            Check.due("fine on 1", press.fine(1, 1, isAgain), 3);
            Check.dueThrow("sheet 2", Check.OUTSIDE, () -> press.fine(2, 0, isAgain));
            Check.dueThrow("sheet -1", Check.OUTSIDE, () -> press.fine(-1, 0, isAgain));
            Check.dueThrow("place 3", Check.OUTSIDE, () -> press.fine(1, 3, isAgain));
            Check.dueThrow("place -1", Check.OUTSIDE, () -> press.fine(1, -1, isAgain));
        }
    }

    /** Promise 16. */
    private static void finesOfSheets() {
        ErrataPress press = marked();
        String ahead = Check.picture(press);
        int changes = press.account(14);
        for (int k = 0; k < 2; k++) {
            boolean isAgain = k == 1;
            Check.due("fines of 0", press.fines(0, isAgain), 16 + 10 + 6 + 4 + 5);
            Check.due("fines of 1", press.fines(1, isAgain), 3);
            Check.dueThrow("sheet 2", Check.OUTSIDE, () -> press.fines(2, isAgain));
            Check.dueThrow("sheet -1", Check.OUTSIDE, () -> press.fines(-1, isAgain));
        }
        Check.due("nothing is changed", Check.picture(press), ahead);
        Check.due("nor can more be undone", press.account(14), changes);
        press.correct(1, 1);
        Check.due("a right sheet", press.fines(1, false) + press.fines(1, true), 0);
    }

    /** Promise 17. */
    private static void mending() {
        ErrataPress press = marked();
        Check.due("0 can", press.canMend(0), true);
        Check.due("1 can just so", press.canMend(1), true);
        press.set(1, 0, 'b');
        Check.due("1 can't", press.canMend(1), false);
        press.day();
        Check.due("1 can't, a day on", press.canMend(1), false);
        press.day();
        Check.due("1 can, two days on", press.canMend(1), true);
        Check.dueThrow("sheet 2", Check.OUTSIDE, () -> press.canMend(2));
        Check.dueThrow("sheet -1", Check.OUTSIDE, () -> press.canMend(-1));
        press.house(0);
        press.sheet(2, 111);
        Check.due("nothing is to be paid", press.canMend(2), true);
    }

    /** Promise 18. */
    private static void laughing() {
        ErrataPress press = Check.pressAfter("h99;s0=aaaaaa;s0=fff;m01b;m02c;m03d;m04e;m05f;m10a;r01;r13;r06;r15;r11");
        int[] due = {0, 16, 16, 18, 18, 2 + 4 + 8 + 16};
        for (int place = 0; place < 6; place++) {
            Check.due("who laughs at " + place, press.laughing(0, place), due[place]);
        }
        Check.due("who laughs at a for f", press.laughing(1, 0), 1 + 2 + 8 + 16);
        Check.due("who laughs at a right f", press.laughing(1, 1), 0);
        press.license(0, 5);
        Check.due("at a licensed one", press.laughing(0, 5), 30);
        press.edition();
        Check.due("at a shown one", press.laughing(0, 5), 30);
        Check.dueThrow("sheet 2", Check.OUTSIDE, () -> press.laughing(2, 0));
        Check.dueThrow("sheet -1", Check.OUTSIDE, () -> press.laughing(-1, 0));
        Check.dueThrow("place 3", Check.OUTSIDE, () -> press.laughing(1, 3));
        Check.dueThrow("place -1", Check.OUTSIDE, () -> press.laughing(1, -1));
        ErrataPress other = Check.pressAfter("h99;s0=aaa;m00f;r16;r12");
        Check.due("nothing is as bad as 6", other.laughing(0, 0), 2);
    }

    private static void dueBargain(ErrataPress press, int sheet, int place) {
        Check.due("the sheet of the bargain", press.bargain(false), sheet);
        Check.due("the place of the bargain", press.bargain(true), place);
    }

    private static void dueNoBargain(ErrataPress press) {
        Check.dueThrow("a sheet without bargain", Check.NO_ELEMENT, () -> press.bargain(false));
        Check.dueThrow("a place without bargain", Check.NO_ELEMENT, () -> press.bargain(true));
    }

    /** Promise 19. */
    private static void bargains() {
        ErrataPress press = new ErrataPress();
        dueNoBargain(press);
        Check.runText(press, "h9;h9;s0=aaaaaa;s1=aaa;s0=aaa");
        dueNoBargain(press);
        Check.runText(press, "m22b;m12b;m11b");
        dueBargain(press, 1, 1);
        Check.runText(press, "m05b");
        dueBargain(press, 0, 5);
        Check.runText(press, "r03");
        Check.runText(press, "m21c");
        dueBargain(press, 2, 1);
        Check.runText(press, "l21");
        dueBargain(press, 1, 1);
        Check.runText(press, "r12;m04c");
        dueBargain(press, 0, 4);
        Check.runText(press, "r02");
        dueBargain(press, 0, 4);
        Check.runText(press, "m03c");
        dueBargain(press, 0, 3);
    }

    private static void bargainsOfOthers() {
        ErrataPress poor = Check.pressAfter("h1;h2;s0=aaa;s1=aaa;m00f;m12b;r06");
        dueBargain(poor, 1, 2);
        poor.license(1, 2);
        dueNoBargain(poor);
        poor.day();
        dueBargain(poor, 0, 0);
        ErrataPress ashamed = Check.pressAfter("h80;h80;s0=aaaaaaaa;m00f;m01f;m02f;m03f;m04f;m05f;l00;l01;l02;l03;e;m06f;r06;s1=aaa;m11b");
        Check.due("20 is not ashamed", ashamed.houseOf(0, 1), 20);
        dueBargain(ashamed, 1, 1);
        Check.runText(ashamed, "r06;r06;r06;r06");
        dueBargain(ashamed, 0, 4);
        Check.runText(ashamed, "l05;e");
        dueBargain(ashamed, 1, 1);
        Check.runText(ashamed, "d;d;d;d");
        dueBargain(ashamed, 1, 1);
        ashamed.day();
        dueBargain(ashamed, 0, 4);
    }

    /** Promise 20. */
    private static void shameToCome() {
        ErrataPress press = Check.pressAfter("h99;h9;s0=aaa;s1=fff;s0=bbb;m00f;m20a;m10a;m11b;m12c");
        Check.due("nothing to print", press.wouldShame(0), 0);
        Check.runText(press, "l00;l20;l10");
        Check.due("house 0", press.wouldShame(0), 6);
        Check.due("house 1", press.wouldShame(1), 5);
        press.edition();
        Check.due("house 0, printed", press.wouldShame(0), 6);
        press.license(1, 1);
        Check.due("house 1, one more", press.wouldShame(1), 9);
        Check.due("house 1 now", press.houseOf(1, 1), 5);
        press.day();
        Check.due("a day on", press.wouldShame(1), 8);
        Check.dueThrow("house 2", Check.OUTSIDE, () -> press.wouldShame(2));
        Check.dueThrow("house -1", Check.OUTSIDE, () -> press.wouldShame(-1));
    }

    /** Promise 21. */
    private static void laughsToCome() {
        ErrataPress press = new ErrataPress();
        dueLaughs(press, 0);
        Check.runText(press, "h99;h9;s0=aaa;s1=fff;r06;r11;r14;m00f;m01f;m10a;m11d");
        dueLaughs(press, 0);
        press.license(0, 0);
        dueLaughs(press, 3);
        press.license(1, 1);
        dueLaughs(press, 4);
        press.license(1, 0);
        dueLaughs(press, 6);
        Check.due("the edition", press.edition(), 6);
        dueLaughs(press, 0);
        press.license(0, 1);
        dueLaughs(press, 3);
        press.take(0);
        dueLaughs(press, 0);
    }

    private static void dueLaughs(ErrataPress press, int laughs) {
        Check.due("by misprints", press.wouldLaugh(false), laughs);
        Check.due("by readers", press.wouldLaugh(true), laughs);
    }

    /** Promise 22. */
    private static void nearest() {
        ErrataPress press = Check.pressAfter("h99;s0=abc;s0=abcdef;s0=fbc;s0=abcde");
        Check.due("right sheet 0", press.nearest(0), 0);
        Check.due("right sheet 1", press.nearest(1), 1);
        Check.due("right sheet 2", press.nearest(2), 2);
        press.set(0, 0, 'f');
        Check.due("fbc is sheet 2", press.nearest(0), 2);
        press.set(0, 0, 'e');
        Check.due("ebc is as near to both", press.nearest(0), 0);
        press.set(2, 0, 'd');
        Check.due("dbc is as near to both, too", press.nearest(2), 0);
        press.set(1, 5, 'a');
        Check.due("abcdea is as near to abcde", press.nearest(1), 1);
        press.set(1, 4, 'a');
        Check.due("abcdaa is 2 from either", press.nearest(1), 1);
        press.set(1, 3, 'a');
        Check.due("abcaaa is 3 from abc", press.nearest(1), 0);
        press.set(3, 4, 'a');
        press.set(3, 3, 'a');
        Check.due("abcaa is 2 from abc", press.nearest(3), 0);
        Check.dueThrow("sheet 4", Check.OUTSIDE, () -> press.nearest(4));
        Check.dueThrow("sheet -1", Check.OUTSIDE, () -> press.nearest(-1));
    }

    /** Promise 23. */
    private static void calm() {
        ErrataPress press = Check.pressAfter("h99;h9;s0=aaaaaaaa;m00f;m01f;m02f;m03f;m04f;l00;l01;l02;l03;e");
        Check.due("a shame of 20", press.calmIn(0), 0);
        Check.due("no shame", press.calmIn(1), 0);
        press.license(0, 4);
        Check.due("an edition is not looked at", press.calmIn(0), 0);
        press.edition();
        for (int days = 5; days > 0; days--) {
            Check.due("days", press.calmIn(0), days);
            Check.due("the ashamed", press.day(), days > 1 ? 1 : 0);
        }
        Check.due("calm", press.calmIn(0), 0);
        Check.dueThrow("house 2", Check.OUTSIDE, () -> press.calmIn(2));
        Check.dueThrow("house -1", Check.OUTSIDE, () -> press.calmIn(-1));
    }
}
