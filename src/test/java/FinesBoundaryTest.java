/** The boundaries that promises 15 to 23 name: a test for each, whose remark tells the sentence that it holds. */
public final class FinesBoundaryTest {
    public static void main(String[] args) {
        Check.eachTest(FinesBoundaryTest.class);
        Check.finish();
    }

    // Promises 15 to 17

    /** Promise 15: "by the rules one behind the other, or, by a second way, at once" */
    static void bothWaysToTellAFine() {
        String[] behind = {"", ";l00", ";l00;e"};
        for (int bad = 1; bad <= 5; bad++) {
            int[] due = {bad + 1, bad + 3, 2 * bad + 6};
            for (int k = 0; k < 3; k++) {
                ErrataPress near = Check.pressAfter("h99;s0=fff;m00" + "fedcba".charAt(bad) + behind[k]);
                Check.due("by the rules", near.fine(0, 0, false), due[k]);
                Check.due("at once", near.fine(0, 0, true), due[k]);
                near.correct(0, 0);
                Check.due("corrected", near.fine(0, 0, false) + near.fine(0, 0, true), 0);
            }
        }
    }

    /** Promise 15: "Returns the fine, 0 for a right letter." */
    static void noFineForARightLetter() {
        ErrataPress press = Check.pressAfter("h99;s0=abcdefab;m01a;m06b;l01;e");
        for (int place : new int[] {0, 2, 5, 7}) {
            Check.due("by the rules at " + place, press.fine(0, place, false), 0);
            Check.due("at once at " + place, press.fine(0, place, true), 0);
        }
        Check.due("at wrong ones", press.fine(0, 1, true) + press.fine(0, 6, true), 8 + 2);
        Check.due("at wrong ones, by the rules", press.fine(0, 1, false) + press.fine(0, 6, false), 8 + 2);
    }

    /** Promise 15: "Throws IndexOutOfBoundsException if there is no such sheet or place" */
    static void finesOfNoPlace() {
        ErrataPress press = Check.pressAfter("h9;s0=aaa;s0=abcdefab");
        for (boolean isAgain : new boolean[] {true, false}) {
            Check.dueJust(2, Check.OUTSIDE, sheet -> press.fine(sheet, 0, isAgain));
            Check.dueJust(3, Check.OUTSIDE, place -> press.fine(0, place, isAgain));
            Check.dueJust(8, Check.OUTSIDE, place -> press.fine(1, place, isAgain));
            Check.dueThrow("no sheet at all", Check.OUTSIDE, () -> new ErrataPress().fine(0, 0, isAgain));
        }
    }

    /** Promise 16: "place by place, or, by a second way, by correcting all in thought" */
    static void correctingInThought() {
        ErrataPress press = Check.pressAfter("h99;s0=aaaa;s0=aaaaaaaa;m00f;m02e;l00;e;l02;m03b;m17b;m10c");
        String ahead = Check.picture(press);
        for (boolean isAgain : new boolean[] {true, false}) {
            Check.due("the fines of sheet 0", press.fines(0, isAgain), 16 + 7 + 2);
            Check.due("the fines of sheet 1", press.fines(1, isAgain), 2 + 3);
        }
        Check.due("nothing is corrected", Check.picture(press), ahead);
        Check.due("no change is made", press.account(14), 1);
    }

    /** Promise 16: "Returns the fines together." */
    static void finesFrom0To128() {
        ErrataPress press = Check.pressAfter("h99;s0=aaaaaaaa");
        for (int place = 0; place < 8; place++) {
            Check.due("place by place", press.fines(0, false), 16 * place);
            Check.due("in thought", press.fines(0, true), 16 * place);
            press.set(0, place, 'f');
            Check.due("one is plain", press.fines(0, false), 16 * place + 6);
            Check.due("one is plain, in thought", press.fines(0, true), 16 * place + 6);
            while (press.calmIn(0) > 0 || press.houseOf(0, 0) < press.houseOf(0, 5)) {
                press.day();
            }
            press.license(0, place);
            Check.due("one is licensed", press.fines(0, false), 16 * place + 8);
            press.edition();
        }
        Check.due("all are shown", press.fines(0, false), 128);
        Check.due("all are shown, in thought", press.fines(0, true), 128);
    }

    /** Promise 16: "Throws IndexOutOfBoundsException if there is no such sheet" */
    static void finesOfNoSheet() {
        for (boolean isAgain : new boolean[] {true, false}) {
            Check.dueThrow("no sheet at all", Check.OUTSIDE, () -> new ErrataPress().fines(0, isAgain));
            ErrataPress press = Check.pressAfter("h9;s0=aaa;s0=aaa;s0=aaa");
            Check.dueJust(3, Check.OUTSIDE, sheet -> press.fines(sheet, isAgain));
            Check.runText(press, "s0=aaa;s0=aaa;s0=aaa;s0=aaa;s0=aaa");
            Check.dueJust(8, Check.OUTSIDE, sheet -> press.fines(sheet, isAgain));
        }
    }

    /** Promise 17: "Tells whether its house could pay all the fines of a sheet now." */
    static void coinsForAllFines() {
        for (int coins = 0; coins <= 12; coins++) {
            ErrataPress press = new ErrataPress();
            press.house(99);
            press.house(coins);
            Check.runText(press, "s1=aaa;s1=aaa;s0=aaa;m10b;m20f;m21f;m00f;m01c");
            Check.due(coins + " coins for 6 and 3", press.canMend(0), coins >= 9);
            Check.due(coins + " coins for 2", press.canMend(1), coins >= 2);
            Check.due("another house", press.canMend(2), true);
            press.day();
            Check.due(coins + " coins and 1 for 6 and 3", press.canMend(0), coins + 1 >= 9);
        }
    }

    /** Promise 17: "could pay all the fines of a sheet now" */
    static void nothingToPay() {
        ErrataPress press = Check.pressAfter("h0;s0=aaa;s0=bbb;m10a");
        Check.due("a right sheet without coins", press.canMend(0), true);
        Check.due("a wrong one without coins", press.canMend(1), false);
        ErrataPress most = Check.pressWithShame(40);
        Check.due("8 shown ones of 16", most.fines(0, false), 128);
        Check.due("more than a house can have", most.canMend(0), false);
        ErrataPress ashamed = Check.pressWithShame(21);
        Check.due("the fines of an ashamed house", ashamed.fines(0, false), 72);
        Check.due("it can pay them with 79", ashamed.canMend(0), true);
    }

    /** Promise 17: "Throws IndexOutOfBoundsException if there is no such sheet" */
    static void mendingOfNoSheet() {
        ErrataPress press = Check.pressAfter("h9;s0=aaa;s0=aaa");
        Check.dueJust(2, Check.OUTSIDE, sheet -> press.canMend(sheet) ? 1 : 0);
        Check.dueThrow("no sheet at all", Check.OUTSIDE, () -> new ErrataPress().canMend(0));
    }

    // Promise 18

    /** Promise 18: "Returns their set, bit k for the reader k, 0 for a right letter." */
    static void bitsOfReaders() {
        ErrataPress press = Check.pressAfter("h9;s0=aaaa;s0=ffff;m00f;m01c;m10a");
        String[] readers = {"r06", "r15", "r13", "r12", "r03"};
        int[] atF = {1, 3, 7, 15, 15};
        int[] atC = {0, 0, 0, 8, 24};
        int[] atA = {0, 2, 6, 14, 14};
        Check.due("without readers", press.laughing(0, 0), 0);
        for (int k = 0; k < 5; k++) {
            Check.runText(press, readers[k]);
            Check.due("at f for a", press.laughing(0, 0), atF[k]);
            Check.due("at c for a", press.laughing(0, 1), atC[k]);
            Check.due("at a for f", press.laughing(1, 0), atA[k]);
            Check.due("at a right a", press.laughing(0, 2), 0);
            Check.due("at a right f", press.laughing(1, 3), 0);
        }
    }

    /** Promise 18: "Returns the readers who laugh at a misprint." */
    static void laughingAtAnyMisprint() {
        ErrataPress press = Check.pressAfter("h9;s0=aaaaaaaa;r11;r12;r13;r14;r15;m07f");
        Check.due("at a plain one", press.laughing(0, 7), 31);
        press.license(0, 7);
        Check.due("at a licensed one", press.laughing(0, 7), 31);
        press.edition();
        Check.due("at a shown one", press.laughing(0, 7), 31);
        int[] due = {1, 3, 7, 15};
        for (int bad = 1; bad <= 4; bad++) {
            press.set(0, 7, "abcde".charAt(bad));
            Check.due("at one that is " + bad + " bad", press.laughing(0, 7), due[bad - 1]);
        }
    }

    /** Promise 18: "Throws IndexOutOfBoundsException if there is no such sheet or place" */
    static void laughingAtNoPlace() {
        ErrataPress press = Check.pressAfter("h9;s0=aaa;s0=abcdefab");
        Check.dueJust(2, Check.OUTSIDE, sheet -> press.laughing(sheet, 0));
        Check.dueJust(3, Check.OUTSIDE, place -> press.laughing(0, place));
        Check.dueJust(8, Check.OUTSIDE, place -> press.laughing(1, place));
        Check.dueThrow("no sheet at all", Check.OUTSIDE, () -> new ErrataPress().laughing(0, 0));
    }

    // Promise 19

    private static void dueBargain(ErrataPress press, int sheet, int place) {
        Check.due("the sheet of the bargain", press.bargain(false), sheet);
        Check.due("the place of the bargain", press.bargain(true), place);
    }

    private static void dueNoBargain(ErrataPress press) {
        Check.dueThrow("the sheet of a bargain", Check.NO_ELEMENT, () -> press.bargain(false));
        Check.dueThrow("the place of a bargain", Check.NO_ELEMENT, () -> press.bargain(true));
    }

    /** Promise 19: "of the plain misprints" */
    static void justPlainOnesAreBargains() {
        ErrataPress press = Check.pressAfter("h99;s0=aaaa;s0=aaa;m00f;m01f;m02b;r06;r06;l00;e;l01");
        dueBargain(press, 0, 2);
        press.license(0, 2);
        dueNoBargain(press);
        press.set(1, 2, 'b');
        dueBargain(press, 1, 2);
    }

    /** Promise 19: "of houses that could license them now" */
    static void bargainsOfHousesThatCouldPay() {
        for (int coins = 0; coins <= 4; coins++) {
            ErrataPress press = new ErrataPress();
            press.house(coins + 2);
            Check.runText(press, "s0=aaa;m00b;m01b;l00");
            if (coins < 3) {
                dueNoBargain(press);
            } else {
                dueBargain(press, 0, 1);
            }
        }
        ErrataPress first = Check.pressAfter("h1;h9;s0=aaa;s1=aaa;m00f;m12b;r06;r06;r06");
        dueBargain(first, 1, 2);
        first.day();
        dueBargain(first, 0, 0);
    }

    /** Promise 19: "of houses that could license them now" */
    static void bargainsOfHousesThatAreNotAshamed() {
        for (int shame = 19; shame <= 23; shame++) {
            ErrataPress press = Check.pressWithShame(shame);
            press.set(2, 7, 'f');
            for (int left = shame; left > 20; left--) {
                dueNoBargain(press);
                press.day();
            }
            dueBargain(press, 2, 7);
        }
    }

    /** Promise 19: "the one at which the most readers laugh, less what the licence costs" */
    static void laughsLessCosts() {
        ErrataPress press = Check.pressAfter("h99;h99;s0=aaa;s1=aaa;m00f;m01f;l00;l01;m02f;m10b;r06");
        Check.due("a licence of house 0", press.houseOf(0, 5), 4);
        Check.due("a licence of house 1", press.houseOf(1, 5), 2);
        dueBargain(press, 1, 0);
        press.reader(0, 6);
        dueBargain(press, 0, 2);
        press.reader(0, 6);
        dueBargain(press, 0, 2);
        press.reader(0, 2);
        dueBargain(press, 0, 2);
        press.reader(1, 1);
        dueBargain(press, 0, 2);
        Check.runText(press, "m11f");
        dueBargain(press, 1, 1);
    }

    /** Promise 19: "of several the one on the lowest sheet, then at the lowest place" */
    static void theLowestOfSeveralBargains() {
        ErrataPress press = Check.pressAfter("h99;h99;s0=aaaaaaaa;s1=aaaaaaaa;r06;m17f");
        dueBargain(press, 1, 7);
        press.set(1, 6, 'f');
        dueBargain(press, 1, 6);
        press.set(0, 7, 'f');
        dueBargain(press, 0, 7);
        press.set(1, 0, 'f');
        dueBargain(press, 0, 7);
        press.set(0, 3, 'f');
        dueBargain(press, 0, 3);
        press.set(0, 0, 'e');
        dueBargain(press, 0, 3);
        press.set(0, 2, 'f');
        dueBargain(press, 0, 2);
    }

    /** Promise 19: "isPlace: whether the place is told, or the sheet" */
    static void thePlaceOrTheSheetOfABargain() {
        for (int sheet = 0; sheet < 8; sheet++) {
            ErrataPress press = Check.pressAfter("h9;s0=aaa;s0=aaa;s0=aaa;s0=aaa;s0=aaa;s0=aaa;s0=aaa;s0=aaaaaaaa");
            int place = sheet == 7 ? 7 : 2 - sheet % 3;
            press.set(sheet, place, 'b');
            dueBargain(press, sheet, place);
        }
    }

    /** Promise 19: "Throws NoSuchElementException if there is none" */
    static void noBargains() {
        ErrataPress press = new ErrataPress();
        dueNoBargain(press);
        press.house(9);
        dueNoBargain(press);
        press.sheet(0, 123);
        dueNoBargain(press);
        press.set(0, 2, 'd');
        dueBargain(press, 0, 2);
        press.correct(0, 2);
        dueNoBargain(press);
        Check.runText(press, "m02d;x0");
        dueNoBargain(press);
    }

    // Promises 20 and 21

    /** Promise 20: "Returns the shame that a house would have behind an edition now, be there something to print or
     * not." */
    static void shameBehindAnEdition() {
        ErrataPress press = Check.pressAfter("h99;h99;s0=aaa;s1=aaa;s0=aaa;m00f;m01e;m20d;m10c");
        dueShames(press, 0, 0);
        press.license(0, 0);
        dueShames(press, 5, 0);
        press.license(2, 0);
        dueShames(press, 8, 0);
        press.license(1, 0);
        dueShames(press, 8, 2);
        press.edition();
        Check.due("house 0", press.houseOf(0, 1), 8);
        Check.due("house 1", press.houseOf(1, 1), 2);
        dueShames(press, 8, 2);
        press.license(0, 1);
        dueShames(press, 12, 2);
        press.day();
        dueShames(press, 11, 1);
    }

    private static void dueShames(ErrataPress press, int due, int dueOfOther) {
        Check.due("the shame of 0", press.wouldShame(0), due);
        Check.due("the shame of 1", press.wouldShame(1), dueOfOther);
    }

    /** Promise 20: "the shame that a house would have behind an edition now" */
    static void shameBehindAnEditionUpTo99() {
        for (int shame = 97; shame <= 100; shame++) {
            ErrataPress press = Check.pressBeforeShame(shame);
            Check.due("the shame of " + shame + " to come", press.wouldShame(0), Math.min(99, shame));
            Check.due("none has come", press.houseOf(0, 1), 0);
            press.edition();
            Check.due("it has come", press.wouldShame(0), Math.min(99, shame));
        }
    }

    /** Promise 20: "Throws IndexOutOfBoundsException if there is no such house" */
    static void shameOfNoHouse() {
        ErrataPress press = Check.pressAfter("h9;h9;h9");
        Check.dueJust(3, Check.OUTSIDE, press::wouldShame);
        press.house(9);
        Check.dueJust(4, Check.OUTSIDE, press::wouldShame);
        Check.dueJust(0, Check.OUTSIDE, house -> new ErrataPress().wouldShame(house));
    }

    /** Promise 21: "Returns how often readers would laugh in an edition now: misprint by misprint, or, by a second way,
     * reader by reader." */
    static void laughsOfAnEdition() {
        ErrataPress press = new ErrataPress();
        dueLaughs(press, 0);
        Check.runText(press, "h99;h99;s0=aaaaaaaa;s1=fff;m00f;m07f;m12a;m01d");
        dueLaughs(press, 0);
        Check.runText(press, "r06;r11;r15");
        dueLaughs(press, 0);
        press.license(0, 0);
        dueLaughs(press, 3);
        press.license(0, 7);
        dueLaughs(press, 6);
        press.license(1, 2);
        dueLaughs(press, 8);
        press.license(0, 1);
        dueLaughs(press, 9);
        Check.runText(press, "r16;r01");
        dueLaughs(press, 10);
        Check.due("the edition", press.edition(), 10);
        dueLaughs(press, 0);
    }

    private static void dueLaughs(ErrataPress press, int due) {
        Check.due("misprint by misprint", press.wouldLaugh(false), due);
        Check.due("reader by reader", press.wouldLaugh(true), due);
    }

    /** Promise 21: "how often readers would laugh in an edition now" */
    static void laughsAreToldWhereCoinsAreLost() {
        ErrataPress press = Check.pressAfter("h99;s0=aaaaaaaa;r11;r11;r11;r11;r11;m00b;m01b;l00;l01;d;d;d;d;d");
        Check.due("the coins", press.houseOf(0, 0), 99);
        dueLaughs(press, 10);
        Check.due("the edition", press.edition(), 10);
        Check.due("the coins", press.houseOf(0, 0), 99);
    }

    // Promises 22 and 23

    /** Promise 22: "by letters that are unlike or that just one has" */
    static void unlikeLettersAndThoseThatJustOneHas() {
        ErrataPress press = Check.pressAfter("h9;s0=fffff;s0=aaa;s0=aaaaaaaa;m00a;m01a;m02a");
        Check.due("aaaff is 2 from aaa, 3 from its own", press.nearest(0), 1);
        press.set(0, 3, 'a');
        Check.due("aaaaf is 2 from aaa, 4 from aaaaaaaa", press.nearest(0), 1);
        press.set(0, 4, 'a');
        Check.due("aaaaa is 2 from aaa, 3 from aaaaaaaa", press.nearest(0), 1);
        Check.runText(press, "x1;s0=aaaaaaa");
        Check.due("aaaaa is 2 from aaaaaaa, 3 from aaaaaaaa", press.nearest(0), 2);
        Check.runText(press, "s0=aaaab");
        Check.due("aaaaa is 1 from aaaab", press.nearest(0), 3);
        Check.due("the longest is 0 from its own", press.nearest(1), 1);
        press.set(1, 7, 'b');
        Check.due("aaaaaaab is 1 from its own", press.nearest(1), 1);
        press.set(1, 6, 'b');
        Check.due("aaaaaabb is 2 from its own and from aaaaaaa", press.nearest(1), 1);
        press.set(1, 6, 'c');
        Check.runText(press, "x0;s0=aaaaaacb");
        Check.due("aaaaaacb is 0 from another's", press.nearest(0), 3);
    }

    /** Promise 22: "of several the lowest" */
    static void theLowestOfSeveralWords() {
        ErrataPress press = Check.pressAfter("h9;s0=bbb;s0=aaa;s0=aaa;s0=aac;s0=aaa;m12b;m22b;m42b;m32b");
        for (int sheet = 1; sheet <= 4; sheet++) {
            Check.due("aab of sheet " + sheet, press.nearest(sheet), 1);
        }
        press.set(0, 0, 'a');
        Check.due("abb is 1 from its own", press.nearest(0), 0);
        Check.runText(press, "m01a;s0=aab");
        Check.due("aab is another's word", press.nearest(0), 5);
        Check.runText(press, "s0=aab");
        Check.due("the lower one of both", press.nearest(0), 5);
    }

    /** Promise 22: "Throws IndexOutOfBoundsException if there is no such sheet" */
    static void nearestOfNoSheet() {
        ErrataPress press = Check.pressAfter("h9;s0=aaa;s0=aaa");
        Check.dueJust(2, Check.OUTSIDE, press::nearest);
        Check.runText(press, "s0=aaa;s0=aaa;s0=aaa;s0=aaa;s0=aaa;s0=aaa");
        Check.dueJust(8, Check.OUTSIDE, press::nearest);
        Check.dueJust(0, Check.OUTSIDE, sheet -> new ErrataPress().nearest(sheet));
    }

    /** Promise 23: "Returns on how many days behind now a house would not be ashamed any more, if nothing but days went
     * by." */
    static void daysTillAHouseIsCalm() {
        for (int shame : new int[] {21, 22, 23, 40, 98, 99, 100}) {
            ErrataPress press = Check.pressWithShame(shame);
            int days = Math.min(99, shame) - 20;
            for (int left = days; left > 0; left--) {
                Check.due("the days", press.calmIn(0), left);
                Check.due("the ashamed", press.day(), left > 1 ? 1 : 0);
            }
            Check.due("no days are left", press.calmIn(0), 0);
        }
    }

    /** Promise 23: "Returns how many, 0 if it is not." */
    static void noDaysIfItIsNotAshamed() {
        for (int shame : new int[] {0, 1, 19, 20}) {
            Check.due("with a shame of " + shame, Check.pressWithShame(shame).calmIn(0), 0);
        }
        Check.due("with a shame of 40 to come", Check.pressBeforeShame(40).calmIn(0), 0);
        Check.due("with a shame of 21", Check.pressWithShame(21).calmIn(0), 1);
    }

    /** Promise 23: "Throws IndexOutOfBoundsException if there is no such house" */
    static void calmOfNoHouse() {
        ErrataPress press = Check.pressAfter("h9;h9");
        Check.dueJust(2, Check.OUTSIDE, press::calmIn);
        Check.runText(press, "h9;h9");
        Check.dueJust(4, Check.OUTSIDE, press::calmIn);
        Check.dueJust(0, Check.OUTSIDE, house -> new ErrataPress().calmIn(house));
    }
}
