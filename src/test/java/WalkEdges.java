/** Edges of promises 22 and 23: how to walk best, how soon a well is held. */
final class WalkEdges extends Sand {
    private WalkEdges() {
    }

    private static void expectWalk(FootIsle x, int walker, int h, int most, String ways) {
        int n = ways.length();
        String call = "walk(" + walker + ", " + n + ", " + h + ", ";
        due(call + "-1)", x.walk(walker, n, h, -1), most);
        for (int k = 0; k < n; k++) {
            due(call + k + ")", x.walk(walker, n, h, k), ways.charAt(k) - '0');
        }
        due(call + n + ")", x.walk(walker, n, h, n), NONE);
    }

    // ---- promise 22

    static void promise22WalkerIsOneThatIsThere() {
        FootIsle x = isle("21;p333,p333");
        due("walker -1", x.walk(-1, 1, 0, -1), BAD);
        due("walker 2", x.walk(2, 1, 0, -1), BAD);
        due("walker least", x.walk(LEAST, 1, 0, -1), BAD);
        due("walker most", x.walk(MOST, 1, 0, -1), BAD);
        due("walker 0", x.walk(0, 1, 0, -1), 9);
        due("walker 1", x.walk(1, 1, 0, -1), 9);
    }

    static void promise22StepsAre0To4() {
        FootIsle x = isle("20;p333");
        due("n -1", x.walk(0, -1, 0, -1), BAD);
        due("n 5", x.walk(0, 5, 0, -1), BAD);
        due("n least", x.walk(0, LEAST, 0, -1), BAD);
        due("n most", x.walk(0, MOST, 0, -1), BAD);
        due("n 0", x.walk(0, 0, 0, -1), 0);
        due("n 4", x.walk(0, 4, 0, -1), 4);
    }

    static void promise22HoursAre0To12() {
        FootIsle x = isle("20;h733");
        x.isle(FLOOD, 0);
        due("h -1", x.walk(0, 1, -1, -1), BAD);
        due("h 13", x.walk(0, 1, 13, -1), BAD);
        due("h least", x.walk(0, 1, LEAST, -1), BAD);
        due("h most", x.walk(0, 1, MOST, -1), BAD);
        expectWalk(x, 0, 0, 1, "0");
        expectWalk(x, 0, 12, 1, "3");
    }

    static void promise22TwelveHoursTakeTwelve() {
        FootIsle x = isle("20;h633");
        x.isle(FLOOD, 0);
        expectWalk(x, 0, 11, 1, "3");
        expectWalk(x, 0, 12, 0, "0");
    }

    static void promise22KIsMinus1AtLeast() {
        FootIsle x = isle("21;p333");
        due("k -2", x.walk(0, 1, 0, -2), BAD);
        due("k least", x.walk(0, 1, 0, LEAST), BAD);
        due("k -1", x.walk(0, 1, 0, -1), 9);
        due("k 0", x.walk(0, 1, 0, 0), 0);
    }

    static void promise22NoneFromNOn() {
        FootIsle x = isle("21;p333");
        for (int n = 0; n <= 4; n++) {
            due("k n - 1, or how much", x.walk(0, n, 0, n - 1) >= 0 ? 1 : 0, 1);
            due("k n", x.walk(0, n, 0, n), NONE);
            due("k n + 1", x.walk(0, n, 0, n + 1), NONE);
            due("k most", x.walk(0, n, 0, MOST), NONE);
        }
    }

    static void promise22BadStandsAheadOfNone() {
        FootIsle x = isle("21;p333");
        due("walker 1", x.walk(1, 2, 0, 5), BAD);
        due("n 5", x.walk(0, 5, 0, 5), BAD);
        due("n -1", x.walk(0, -1, 0, 0), BAD);
        due("h 13", x.walk(0, 2, 13, 5), BAD);
        due("none of these", x.walk(0, 2, 12, 5), NONE);
    }

    static void promise22NoStepsAreLandBehindTheHours() {
        FootIsle x = isle("21;p933");
        x.step(0, 0); // 9 at 4 3, dry: gone behind 5
        expectWalk(x, 0, 0, 9, "");
        expectWalk(x, 0, 4, 9, "");
        expectWalk(x, 0, 5, 0, "");
    }

    static void promise22OfLikeOnesTheFirst() {
        expectWalk(isle("21;p333"), 0, 0, 9, "0");
        expectWalk(isle("20;p333"), 0, 0, 4, "0000");
        expectWalk(isle("20;p353"), 0, 0, 4, "0011");
        expectWalk(isle("20;p333"), 0, 12, 0, "0000");
    }

    static void promise22BySteps0Then1Then2Then3() {
        expectWalk(isle("21;p363"), 0, 0, 9, "1");
        expectWalk(isle("21;p366"), 0, 0, 9, "2");
        FootIsle x = isle("21;p333");
        x.isle(WET, 2);
        x.isle(FLOOD, 0);
        expectWalk(x, 0, 2, 0, "0");
        expectWalk(isle("21;p333"), 0, 2, 9, "3");
    }

    static void promise22OnlyPossibleStepsInTheCorners() {
        expectWalk(isle("21;p300"), 0, 0, 6, "0");
        expectWalk(isle("21;p370"), 0, 0, 6, "1");
        expectWalk(isle("21;p377"), 0, 0, 6, "2");
        expectWalk(isle("21;p307"), 0, 0, 6, "0");
        expectWalk(isle("20;o377"), 0, 0, 0, "2");
        expectWalk(isle("20;p370"), 0, 0, 2, "11");
        expectWalk(isle("20;p377"), 0, 0, 4, "2032");
        expectWalk(isle("20;p317"), 0, 0, 4, "0000");
        expectWalk(isle("20;p357"), 0, 0, 4, "0032");
    }

    static void promise22OnlyTheThirdWayIsLeft() {
        FootIsle x = isle("20;p377,h966,h967");
        walk(x, 2, "0"); // 18 at 7 7
        due("LAND of the other", x.of(2, 6), 1);
        expectWalk(x, 0, 0, 1, "2");
        walk(x, 1, "1"); // 18 at 6 7
        expectWalk(x, 0, 0, 1, "3");
    }

    static void promise22ThePrintsAre99DeepAtMost() {
        FootIsle x = isle("20;h933,h933");
        for (int i = 0; i < 6; i++) {
            walk(x, 0, "02"); // 99 at 3 3, 4 3
        }
        for (int i = 0; i < 5; i++) {
            walk(x, 1, "02"); // 90 there
        }
        expectWalk(x, 1, 0, 1, "1");
        expectWalk(x, 0, 0, 3, "1");
    }

    static void promise22TheTideComesWithinTheHours() {
        FootIsle x = isle("01;h901");
        x.isle(WET, 8);
        expectWalk(x, 0, 5, 9, "0"); // 1 1, at hour 5
        expectWalk(x, 0, 6, 6, "1"); // 0 2, beyond the flood
        x.hours(1);
        expectWalk(x, 0, 4, 9, "0");
        expectWalk(x, 0, 5, 6, "1");
    }

    static void promise22AHoppersStepsGoOn() {
        FootIsle x = isle("20;o333");
        expectWalk(x, 0, 0, 0, "0");
        expectWalk(x, 0, 0, 1, "00");
        expectWalk(x, 0, 0, 1, "000");
        expectWalk(x, 0, 0, 2, "0000");
        x.step(0, 0); // its first, at 4 3
        expectWalk(x, 0, 0, 1, "0");
        expectWalk(x, 0, 0, 1, "00");
        expectWalk(x, 0, 0, 2, "000");
    }

    static void promise22AHorsesFirstStepTreadsTwoCells() {
        FootIsle x = isle("20;k133");
        expectWalk(x, 0, 0, 0, "");
        expectWalk(x, 0, 0, 2, "0");
        expectWalk(x, 0, 0, 5, "0000");
    }

    static void promise22OneShodTreadsAwayItsOwnLand() {
        FootIsle x = isle("20;s333,s333");
        x.step(0, 0); // 3 at 4 3, of WALKER 1
        expectWalk(x, 1, 0, 1, "");
        expectWalk(x, 1, 0, 1, "1");
    }

    static void promise22OneShodAloneTreadsForItself() {
        expectWalk(isle("20;s333"), 0, 0, 2, "00");
    }

    static void promise22LandIsUpTo64() {
        FootIsle x = isle("03;p923,p100");
        walk(x, 0, "001"); // 9 at 3 3, 4 3, 4 4
        expectWalk(x, 0, 12, 63, "");
        expectWalk(x, 0, 12, 64, "2");
        expectWalk(x, 0, 0, 64, "0122");
    }

    static void promise22NothingIsChanged() {
        FootIsle x = busy();
        x.walk(0, 4, 12, 3);
        x.walk(0, 4, 0, -1);
        x.walk(0, 5, 0, -1);
        x.walk(0, 4, 0, 4);
        sameAll("walk", x, busy());
    }

    // ---- promise 23

    static void promise23WalkerIsOneThatIsThere() {
        FootIsle x = isle("20;p300,p333");
        due("walker -1", x.well(-1, 28, 0), BAD);
        due("walker 2", x.well(2, 28, 0), BAD);
        due("walker least", x.well(LEAST, 28, 0), BAD);
        due("walker most", x.well(MOST, 28, 0), BAD);
        due("walker 0", x.well(0, 28, 0), NONE);
        due("walker 1", x.well(1, 28, 0), 1);
    }

    static void promise23CellIs0To63() {
        FootIsle x = isle("20;p310,p367");
        due("cell -1", x.well(0, -1, 0), BAD);
        due("cell 64", x.well(0, 64, 0), BAD);
        due("cell least", x.well(0, LEAST, 0), BAD);
        due("cell most", x.well(0, MOST, 0), BAD);
        due("cell 0", x.well(0, 0, 0), 1);
        due("cell 63", x.well(1, 63, 0), 1);
    }

    static void promise23HoursAre0To12() {
        FootIsle x = isle("20;h733");
        x.isle(FLOOD, 0);
        due("h -1", x.well(0, cell(3, 2), -1), BAD);
        due("h 13", x.well(0, cell(3, 2), 13), BAD);
        due("h least", x.well(0, cell(3, 2), LEAST), BAD);
        due("h most", x.well(0, cell(3, 2), MOST), BAD);
        due("h 0", x.well(0, cell(3, 2), 0), 1);
        due("h 12", x.well(0, cell(3, 2), 12), 1);
    }

    static void promise23TwelveHoursTakeTwelve() {
        FootIsle x = isle("20;h633");
        x.isle(FLOOD, 0);
        due("h 11", x.well(0, cell(3, 2), 11), 1);
        due("h 12, trodden twice", x.well(0, cell(3, 2), 12), 3);
    }

    static void promise23BadStandsAheadOfNone() {
        FootIsle x = isle("20;p300");
        due("too far", x.well(0, 63, 0), NONE);
        due("too far, h 13", x.well(0, 63, 13), BAD);
        due("too far, walker 1", x.well(1, 63, 0), BAD);
    }

    static void promise23NoStepIfItHoldsItThen() {
        FootIsle x = isle("20;p933");
        x.step(0, 0); // 9 at 4 3: gone behind 5
        due("h 0", x.well(0, cell(4, 3), 0), 0);
        due("h 4", x.well(0, cell(4, 3), 4), 0);
        due("h 5", x.well(0, cell(4, 3), 5), 2);
        due("beside it", x.well(0, cell(5, 3), 0), 1);
    }

    static void promise23FourStepsAtMost() {
        FootIsle x = isle("20;p333");
        due("1 step off", x.well(0, cell(4, 3), 0), 1);
        due("2 steps off", x.well(0, cell(4, 4), 0), 2);
        due("its own cell", x.well(0, cell(3, 3), 0), 2);
        due("3 steps off", x.well(0, cell(6, 3), 0), 3);
        due("4 steps off", x.well(0, cell(7, 3), 0), 4);
        due("4 steps off", x.well(0, cell(0, 2), 0), 4);
        due("5 steps off", x.well(0, cell(7, 2), 0), NONE);
        due("6 steps off", x.well(0, 0, 0), NONE);
    }

    static void promise23ReachIsNearEnough() {
        FootIsle x = isle("23;p333");
        due("4 off", x.well(0, cell(7, 3), 0), 1);
        due("the corner", x.well(0, 63, 0), 2);
        x = isle("23;p300");
        due("7 off", x.well(0, cell(7, 0), 0), 4);
        due("7 off, 4 rows off", x.well(0, cell(7, 4), 0), NONE);
    }

    static void promise23NotRoundTheRim() {
        FootIsle x = isle("20;p370");
        due("the next row's first cell", x.well(0, cell(0, 1), 0), NONE);
        FootIsle y = isle("20;p304");
        due("the row's last cell before", y.well(0, cell(7, 3), 0), NONE);
    }

    static void promise23AsDeepAsAnotherIsNotHeld() {
        FootIsle x = isle("20;p633,p333");
        x.step(0, 0); // 6 at 4 3
        due("3, 6, then 9 deep would be 5 steps", x.well(1, cell(4, 3), 0), NONE);
        x = isle("20;p533,p333");
        x.step(0, 0); // 5 at 4 3
        due("6 deep", x.well(1, cell(4, 3), 0), 3);
    }

    static void promise23ThePrintsAre99DeepAtMost() {
        FootIsle x = isle("20;h933,h933");
        for (int i = 0; i < 6; i++) {
            walk(x, 0, "02"); // 99 at 3 3, 4 3
        }
        for (int i = 0; i < 5; i++) {
            walk(x, 1, "02"); // 90 there
        }
        due("99 are not above 99", x.well(1, cell(4, 3), 0), NONE);
    }

    static void promise23AHopperTakesTwoSteps() {
        FootIsle x = isle("20;o333");
        due("1 off", x.well(0, cell(4, 3), 0), NONE);
        due("2 off", x.well(0, cell(5, 3), 0), 2);
        due("4 off", x.well(0, cell(7, 3), 0), 4);
        x.step(0, 2); // its first, at 2 3
        due("1 off now", x.well(0, cell(3, 3), 0), 1);
    }

    static void promise23AHorseHoldsWhatItHasLeft() {
        due("its own cell", isle("20;k333").well(0, cell(3, 3), 0), 1);
    }

    static void promise23OneShodHoldsNothingByItsSteps() {
        FootIsle x = isle("21;s333,p100");
        due("beside it", x.well(0, cell(4, 3), 0), NONE);
        due("alone", isle("21;s333").well(0, cell(4, 3), 0), 1);
    }

    static void promise23NothingIsChanged() {
        FootIsle x = busy();
        x.well(0, 0, 12);
        x.well(0, cell(3, 3), 0);
        x.well(0, 64, 0);
        x.well(0, 0, 13);
        sameAll("well", x, busy());
    }
}
