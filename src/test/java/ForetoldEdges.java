/** Edges of promises 17 to 21 and 24 to 26: what is foretold of land, counties, ways, crabs; images. */
final class ForetoldEdges extends Sand {
    private ForetoldEdges() {
    }

    /** Two walkers of nothing and a third whose print, on wet sand without a flood, is so deep at 3 1; reach 0. */
    private static FootIsle deep(int depth) {
        FootIsle x = isle("20;p177,p167,h930");
        x.isle(FLOOD, 0);
        x.isle(REACH, 0);
        for (int i = 0; i < 6; i++) {
            walk(x, 2, "13");
        }
        for (int i = 99; i > depth; i -= Math.min(24, i - depth)) {
            x.hours(Math.min(24, i - depth));
        }
        due("print", x.print(2, cell(3, 1)), depth);
        return x;
    }

    // ---- promise 17

    static void promise17HoursAre0To48() {
        FootIsle x = deep(49);
        due("ahead by -1", x.ahead(cell(3, 1), -1), BAD);
        due("ahead by 49", x.ahead(cell(3, 1), 49), BAD);
        due("ahead by least", x.ahead(cell(3, 1), LEAST), BAD);
        due("ahead by most", x.ahead(cell(3, 1), MOST), BAD);
        due("ahead by 0", x.ahead(cell(3, 1), 0), 2);
        due("ahead by 48", x.ahead(cell(3, 1), 48), 2);
        due("ahead by 48, 1 less deep", deep(48).ahead(cell(3, 1), 48), NONE);
        due("ahead by 47, 1 less deep", deep(48).ahead(cell(3, 1), 47), 2);
    }

    static void promise17CellIs0To63() {
        FootIsle x = isle("21;p910,p967");
        x.step(0, 2);
        x.step(1, 0);
        due("ahead(-1, 0)", x.ahead(-1, 0), BAD);
        due("ahead(64, 0)", x.ahead(64, 0), BAD);
        due("ahead(least, 0)", x.ahead(LEAST, 0), BAD);
        due("ahead(most, 0)", x.ahead(MOST, 0), BAD);
        due("ahead(0, 1)", x.ahead(0, 1), 0);
        due("ahead(63, 1)", x.ahead(63, 1), 1);
    }

    static void promise17BadStandsAheadOfNone() {
        FootIsle x = new FootIsle();
        due("ahead(0, 48)", x.ahead(0, 48), NONE);
        due("ahead(0, 49)", x.ahead(0, 49), BAD);
        due("ahead(64, 48)", x.ahead(64, 48), BAD);
    }

    static void promise17TheTideIsForetoldByTheHour() {
        FootIsle x = isle("01;h901");
        x.isle(FLOOD, 1);
        x.step(0, 3); // 18 at 0 0
        due("behind 5", x.ahead(0, 5), 0);
        due("behind 6", x.ahead(0, 6), NONE);
        x.hours(5);
        due("behind 0", x.ahead(0, 0), 0);
        due("behind 1", x.ahead(0, 1), NONE);
        x.hours(1);
        x.step(0, 0); // 18 at 1 0, at hour 6: the tide has been
        due("behind 0, at the tide's hour", x.ahead(0, 0), 0);
        due("behind 5, at the tide's hour", x.ahead(0, 5), 0);
        due("behind 6, at the tide's hour", x.ahead(0, 6), NONE);
    }

    static void promise17WhoHoldsChangesAsPrintsFade() {
        FootIsle x = isle("31;p833,p631");
        x.step(0, 0); // 8 at 4 3, dry
        walk(x, 1, "01"); // 6 at 4 1, 4 2, wet
        due("now", x.ahead(cell(4, 2), 0), 0);
        due("alike, behind 1", x.ahead(cell(4, 2), 1), NONE);
        due("the other, behind 2", x.ahead(cell(4, 2), 2), 1);
    }

    static void promise17ForetoldHoursGoBeyond9999() {
        FootIsle x = new FootIsle();
        for (int hour = 0; hour < 9984; hour += 24) {
            x.hours(24);
        }
        x.hours(15);
        x.walker(0, 9, cell(3, 4));
        x.step(0, 0);
        x.isle(WIND, 0);
        due("ahead by 48", x.ahead(cell(4, 4), 48), 0);
        due("land behind 48", x.land(0, 48), 9);
        due("HOUR", x.count(1), 9999);
    }

    static void promise17NothingIsChanged() {
        FootIsle x = busy();
        x.ahead(cell(3, 3), 48);
        x.ahead(cell(3, 3), 49);
        x.ahead(64, 0);
        sameAll("ahead", x, busy());
    }

    // ---- promise 18

    static void promise18HoursAre0To48() {
        FootIsle x = deep(49);
        due("land behind -1", x.land(2, -1), BAD);
        due("land behind 49", x.land(2, 49), BAD);
        due("land behind least", x.land(2, LEAST), BAD);
        due("land behind most", x.land(2, MOST), BAD);
        due("land behind 0", x.land(2, 0), 2);
        due("land behind 48", x.land(2, 48), 2);
        due("land behind 48, 1 less deep", deep(48).land(2, 48), 0);
    }

    static void promise18WalkerIsOneThatIsThere() {
        FootIsle x = isle("21;p933,p100");
        x.step(0, 0);
        due("land(-1, 0)", x.land(-1, 0), BAD);
        due("land(2, 0)", x.land(2, 0), BAD);
        due("land(least, 0)", x.land(LEAST, 0), BAD);
        due("land(most, 0)", x.land(MOST, 0), BAD);
        due("land(0, 1)", x.land(0, 1), 9);
        due("land(1, 1)", x.land(1, 1), 0);
    }

    /** One who holds all 64 cells by reach 3, and another. */
    private static FootIsle allHeld() {
        FootIsle x = isle("03;p923,p100");
        walk(x, 0, "0012"); // 9 at 3 3, 4 3, 4 4, 3 4
        return x;
    }

    static void promise18LandIs0To64() {
        due("all, behind 48", allHeld().land(0, 48), 64);
        due("none, behind 48", allHeld().land(1, 48), 0);
    }

    static void promise18NothingIsChanged() {
        FootIsle x = busy();
        x.land(0, 48);
        x.land(0, 49);
        x.land(1, 0);
        sameAll("land", x, busy());
    }

    // ---- promise 19

    static void promise19WalkerIsOneThatIsThere() {
        FootIsle x = isle("21;p100,p933");
        x.step(1, 0);
        due("lasts(-1, 28)", x.lasts(-1, 28), BAD);
        due("lasts(2, 28)", x.lasts(2, 28), BAD);
        due("lasts(least, 28)", x.lasts(LEAST, 28), BAD);
        due("lasts(most, 28)", x.lasts(MOST, 28), BAD);
        due("lasts(0, 28)", x.lasts(0, 28), NOT);
        due("lasts(1, 28)", x.lasts(1, 28), 5);
    }

    static void promise19CellIs0To63() {
        FootIsle x = isle("21;p910,p967");
        x.step(0, 2);
        x.step(1, 0);
        due("lasts(0, -1)", x.lasts(0, -1), BAD);
        due("lasts(0, 64)", x.lasts(0, 64), BAD);
        due("lasts(0, least)", x.lasts(0, LEAST), BAD);
        due("lasts(0, most)", x.lasts(0, MOST), BAD);
        due("lasts(0, 0)", x.lasts(0, 0), 6);
        due("lasts(1, 63)", x.lasts(1, 63), 5);
    }

    static void promise19NotIfItDoesNotHoldItNow() {
        FootIsle x = isle("31;p833,p631");
        x.step(0, 0); // 8 at 4 3, dry
        walk(x, 1, "01"); // 6 at 4 1, 4 2, wet
        due("one who will hold it", x.lasts(1, cell(4, 2)), NOT);
        due("one who holds it", x.lasts(0, cell(4, 2)), 1);
        due("nobody holds it", x.lasts(0, 63), NOT);
    }

    static void promise19OneHourAtLeast() {
        FootIsle x = isle("21;p133");
        x.step(0, 0);
        due("1 deep", x.lasts(0, cell(4, 3)), 1);
    }

    static void promise19FortyEightHoursAtMost() {
        due("48 deep", deep(48).lasts(2, cell(3, 1)), 48);
        due("47 deep", deep(47).lasts(2, cell(3, 1)), 47);
    }

    static void promise19NoneIfNotIn48() {
        due("49 deep", deep(49).lasts(2, cell(3, 1)), NONE);
        FootIsle x = isle("01;p133");
        x.step(0, 0);
        due("dry sand without wind", x.lasts(0, cell(4, 3)), NONE);
    }

    static void promise19NothingIsChanged() {
        FootIsle x = busy();
        x.lasts(0, cell(3, 3));
        x.lasts(0, 64);
        x.lasts(1, 0);
        sameAll("lasts", x, busy());
    }

    // ---- promise 20

    static void promise20WalkerIsOneThatIsThere() {
        FootIsle x = isle("01;p100,p111");
        walk(x, 1, "00112233");
        due("county(-1)", x.county(-1), BAD);
        due("county(2)", x.county(2), BAD);
        due("county(least)", x.county(LEAST), BAD);
        due("county(most)", x.county(MOST), BAD);
        due("county(0)", x.county(0), 0);
        due("county(1)", x.county(1), 1);
    }

    static void promise20NoPrintsNoCounty() {
        due("county(0)", isle("01;p133").county(0), 0);
    }

    /** All 28 cells of the rim are walked on. */
    private static FootIsle rim() {
        FootIsle x = isle("01;p100");
        walk(x, 0, "0000000" + "1111111" + "2222222" + "3333333");
        due("CELLS with PRINTS", x.count(9), 28);
        return x;
    }

    static void promise20AllWithinTheRim() {
        due("county(0)", rim().county(0), 36);
    }

    static void promise20AGapInTheRimOpensAll() {
        int[] gaps = {cell(1, 0), cell(6, 0), cell(0, 1), cell(0, 6), cell(7, 3), cell(4, 7), cell(7, 1), cell(7, 6)};
        for (int gap : gaps) {
            FootIsle x = rim();
            x.rake(gap);
            due("a gap at " + gap, x.county(0), 0);
        }
    }

    static void promise20ACornerIsNoGap() {
        int[] corners = {cell(0, 0), cell(7, 0), cell(0, 7), cell(7, 7)};
        FootIsle x = rim();
        for (int corner : corners) {
            x.rake(corner);
            due("without corner " + corner, x.county(0), 36);
        }
    }

    static void promise20ACellOfTheRimIsNone() {
        FootIsle x = isle("01;p101");
        walk(x, 0, "0"); // 1 1
        walk(x, 0, "3"); // 1 0
        x.step(0, 2); // 0 0
        x.step(0, 1); // 0 1
        walk(x, 0, "1002"); // 0 2, 1 2, 2 2, 1 2
        walk(x, 0, "0332"); // 2 2, 2 1, 2 0, 1 0
        due("all of 3 by 3 is walked on", x.county(0), 0);
        x.rake(0);
        due("a corner of THE ISLE, walked round", x.county(0), 0);
        x.rake(cell(1, 1));
        due("a cell within", x.county(0), 1);
    }

    static void promise20OnlyItsOwnPrintsMatter() {
        FootIsle x = isle("01;p111,p111");
        walk(x, 0, "0011223"); // round 2 2, but for 1 1
        x.step(0, 3);
        due("walked round", x.county(0), 1);
        x.rake(cell(1, 1));
        due("by sides", x.county(0), 1);
        x.rake(cell(1, 2));
        due("a gap", x.county(0), 0);
        walk(x, 1, "12"); // 1 2 and 0 2 of the other
        due("the other's print does not close it", x.county(0), 0);
    }

    static void promise20APrintFadedTo0IsAGap() {
        FootIsle x = isle("11;p111");
        x.isle(WET, 0);
        walk(x, 0, "00112233");
        due("walked round", x.county(0), 1);
        x.hours(1);
        due("faded", x.county(0), 0);
    }

    static void promise20TheSixthsCounty() {
        FootIsle x = isle("01;p100,p110,p120,p130,p140,p155");
        walk(x, 5, "00112233"); // round 6 6, by x 7 and y 7
        due("county(5)", x.county(5), 1);
        due("county(6)", x.county(6), BAD);
    }

    // ---- promise 21

    static void promise21WalkerIsOneThatIsThere() {
        FootIsle x = allHeld();
        due("way(-1, 0, 1)", x.way(-1, 0, 1), BAD);
        due("way(2, 0, 1)", x.way(2, 0, 1), BAD);
        due("way(least, 0, 1)", x.way(LEAST, 0, 1), BAD);
        due("way(most, 0, 1)", x.way(MOST, 0, 1), BAD);
        due("way(0, 0, 1)", x.way(0, 0, 1), 0);
        due("way(1, 0, 1)", x.way(1, 0, 1), 1);
    }

    static void promise21CellsAre0To63() {
        FootIsle x = allHeld();
        due("from -1", x.way(1, -1, 0), BAD);
        due("from 64", x.way(1, 64, 0), BAD);
        due("from least", x.way(1, LEAST, 0), BAD);
        due("from most", x.way(1, MOST, 0), BAD);
        due("to -1", x.way(1, 0, -1), BAD);
        due("to 64", x.way(1, 0, 64), BAD);
        due("to least", x.way(1, 0, LEAST), BAD);
        due("to most", x.way(1, 0, MOST), BAD);
        due("from 0 to 63", x.way(1, 0, 63), 14);
        due("from 63 to 0", x.way(1, 63, 0), 14);
    }

    static void promise21FromACellToItself() {
        FootIsle x = allHeld();
        for (int c = 0; c < 64; c += 21) {
            due("another's land, " + c, x.way(1, c, c), 0);
            due("one's own, " + c, x.way(0, c, c), 0);
        }
    }

    static void promise21TheOneItBeginsOnDoesNotCount() {
        FootIsle x = isle("20;p333,p100");
        x.step(0, 0); // 4 3 is held
        due("from it", x.way(1, cell(4, 3), cell(5, 3)), 0);
        due("to it", x.way(1, cell(5, 3), cell(4, 3)), 1);
        due("to it, of who holds it", x.way(0, cell(5, 3), cell(4, 3)), 0);
    }

    static void promise21WhereNobodyHoldsItCostsNothing() {
        FootIsle x = isle("20;p333,p333,p100");
        x.step(0, 0);
        x.step(1, 0); // 4 3: two alike
        due("to it", x.way(2, cell(5, 3), cell(4, 3)), 0);
        due("nobody's isle", isle("21;p133").way(0, 0, 63), 0);
    }

    static void promise21BySidesOnly() {
        FootIsle x = isle("20;p301,p177");
        walk(x, 0, "03"); // 1 1 and 1 0 are held
        x.rake(cell(1, 1));
        walk(x, 0, "2"); // 0 0
        x.rake(cell(0, 0));
        walk(x, 0, "1"); // 0 1
        due("1 0 and 0 1 are held, 0 0 is not", x.count(8), 2);
        due("out of the corner", x.way(1, 0, cell(1, 1)), 1);
    }

    static void promise21NoWayGoesRoundTheRim() {
        FootIsle x = isle("20;p940,p177");
        walk(x, 0, "1111111"); // column 4 but for y 0
        walk(x, 0, "3333333"); // and y 0
        due("column 4 is held", x.count(8), 8);
        due("from x 0 to x 7", x.way(1, cell(0, 3), cell(7, 3)), 1);
        due("from x 7 to x 0", x.way(1, cell(7, 3), cell(0, 4)), 1);
    }

    static void promise21AWayRoundCostsLess() {
        FootIsle x = isle("20;p303,p177");
        walk(x, 0, "000000"); // row 3, x 1 to 6
        due("round by x 0 or x 7", x.way(1, cell(3, 2), cell(3, 4)), 0);
        due("along", x.way(1, cell(0, 3), cell(7, 3)), 0);
    }

    static void promise21LandIsThatOfNow() {
        FootIsle x = alikeNow();
        due("WALKER 0, over what nobody holds", x.way(0, cell(3, 1), cell(3, 3)), 0);
        due("WALKER 1, over what nobody holds", x.way(1, cell(3, 4), cell(3, 2)), 0);
        due("WALKER 0, onto WALKER 1's", x.way(0, cell(3, 1), cell(3, 4)), 1);
    }

    static void promise21FromEachCellToEach() {
        for (int from = 0; from < 64; from++) {
            FootIsle x = allHeld();
            for (int to = 0; to < 64; to++) {
                int steps = Math.abs(from % 8 - to % 8) + Math.abs(from / 8 - to / 8);
                due("all of it another's, from " + from + " to " + to, x.way(1, from, to), steps);
                due("all of it one's own, from " + from + " to " + to, x.way(0, from, to), 0);
            }
        }
    }

    // ---- promise 24

    static void promise24WalkerIsOneThatIsThere() {
        FootIsle x = deep(99);
        due("walker -1", x.crabs(-1, cell(3, 1), 1, 1), BAD);
        due("walker 3", x.crabs(3, cell(3, 1), 1, 1), BAD);
        due("walker least", x.crabs(LEAST, cell(3, 1), 1, 1), BAD);
        due("walker most", x.crabs(MOST, cell(3, 1), 1, 1), BAD);
        due("walker 0", x.crabs(0, cell(3, 1), 1, 1), 0);
        due("walker 2", x.crabs(2, cell(3, 1), 1, 1), 990000);
    }

    static void promise24CellIs0To63() {
        FootIsle x = isle("01;p910,p967");
        x.step(0, 2);
        x.step(1, 0);
        due("cell -1", x.crabs(0, -1, 1, 1), BAD);
        due("cell 64", x.crabs(0, 64, 1, 1), BAD);
        due("cell least", x.crabs(0, LEAST, 1, 1), BAD);
        due("cell most", x.crabs(0, MOST, 1, 1), BAD);
        due("cell 0", x.crabs(0, 0, 1, 1), 990000);
        due("cell 63", x.crabs(1, 63, 1, 1), 990000);
    }

    static void promise24HoursAre0To48() {
        FootIsle x = deep(49);
        int c = cell(3, 1);
        due("n -1", x.crabs(2, c, -1, 0), BAD);
        due("n 49", x.crabs(2, c, 49, 0), BAD);
        due("n least", x.crabs(2, c, LEAST, 0), BAD);
        due("n most", x.crabs(2, c, MOST, 0), BAD);
        due("n 0", x.crabs(2, c, 0, 0), 1000000);
        due("n 48", x.crabs(2, c, 48, 0), 1000000);
        due("n 48, 1 less deep", deep(48).crabs(2, c, 48, 0), 0);
        due("n 47, 1 less deep", deep(48).crabs(2, c, 47, 0), 1000000);
    }

    static void promise24CrabsAre0To100() {
        FootIsle x = deep(99);
        int c = cell(3, 1);
        due("c -1", x.crabs(2, c, 1, -1), BAD);
        due("c 101", x.crabs(2, c, 1, 101), BAD);
        due("c least", x.crabs(2, c, 1, LEAST), BAD);
        due("c most", x.crabs(2, c, 1, MOST), BAD);
        due("c 0", x.crabs(2, c, 1, 0), 1000000);
        due("c 1", x.crabs(2, c, 1, 1), 990000);
        due("c 99", x.crabs(2, c, 1, 99), 10000);
        due("c 100", x.crabs(2, c, 1, 100), 0);
    }

    static void promise24NoHourNoCrabs() {
        FootIsle x = deep(99);
        due("n 0, c 100", x.crabs(2, cell(3, 1), 0, 100), 1000000);
        due("n 0, no print", x.crabs(2, 0, 0, 0), 0);
    }

    static void promise24ItIsCutEachHour() {
        FootIsle x = deep(99);
        int c = cell(3, 1);
        int[] by99 = {1000000, 10000, 100, 1, 0, 0};
        int[] by67 = {1000000, 330000, 108900, 35937, 11859, 3913, 1291, 426, 140, 46, 15, 4, 1, 0};
        for (int n = 0; n < by99.length; n++) {
            due("c 99, n " + n, x.crabs(2, c, n, 99), by99[n]);
        }
        for (int n = 0; n < by67.length; n++) {
            due("c 67, n " + n, x.crabs(2, c, n, 67), by67[n]);
        }
    }

    static void promise24ItIs0IfThePrintIsGone() {
        FootIsle x = isle("31;p933,p100");
        x.step(0, 0); // 9 at 4 3, dry: gone behind 3
        due("behind 2", x.crabs(0, cell(4, 3), 2, 0), 1000000);
        due("behind 3", x.crabs(0, cell(4, 3), 3, 0), 0);
        x.step(1, 0); // 1 at 1 0
        due("behind 0", x.crabs(1, 1, 0, 0), 1000000);
        due("behind 1", x.crabs(1, 1, 1, 0), 0);
    }

    static void promise24ItIs0ByTheTide() {
        FootIsle x = isle("31;p901");
        x.step(0, 3); // 9 at 0 0
        due("behind 5", x.crabs(0, 0, 5, 10), 590490);
        due("behind 6", x.crabs(0, 0, 6, 10), 0);
    }

    // ---- promise 25

    static void promise25AnImageChangesNothingElse() {
        FootIsle x = busy();
        FootIsle y = busy();
        x.restore();
        y.restore();
        due("image()", x.image(), 1);
        sameAll("image", x, y);
    }

    static void promise25OfNobodyToo() {
        FootIsle x = new FootIsle();
        due("image()", x.image(), 1);
        x.walker(0, 1, 0);
        due("restore()", x.restore(), 1);
        due("count(0)", x.count(0), 0);
    }

    static void promise25TheLatestIsKept() {
        FootIsle x = isle("21;p133");
        x.image();
        x.hours(1);
        x.image();
        x.hours(1);
        x.restore();
        due("HOUR", x.count(1), 1);
    }

    // ---- promise 26

    static void promise26NoneAtFirst() {
        FootIsle x = nine();
        due("restore()", x.restore(), NONE);
        sameAll("NONE", x, nine());
    }

    static void promise26AllIsAsItWasThen() {
        FootIsle x = keptForTest();
        settleAs(x, "93;o911,s922,p111");
        for (int what = 0; what < 5; what++) {
            x.isle(what, 2);
        }
        x.seed(4);
        x.step(1, 0);
        x.drift(20);
        due("restore()", x.restore(), 1);
        sameAll("restore", x, keptForTest());
    }

    private static FootIsle keptForTest() {
        FootIsle x = isle("40;k933,h100");
        x.isle(WET, 8);
        x.isle(TIDE, 12);
        x.isle(FLOOD, 0);
        x.seed(MOST);
        walk(x, 0, "0123");
        walk(x, 1, "00011");
        x.drift(2);
        x.rake(1);
        x.image();
        return x;
    }

    static void promise26TheTapeAndSheetsAreAsTheyAre() {
        FootIsle x = isle("21;p133");
        typeAll(x, "21;");
        x.sheet(0, 2, 3);
        x.image();
        typeAll(x, "p12");
        x.drop(0);
        x.sheet(1, 1, 4);
        due("restore()", x.restore(), 1);
        due("SHEET 0", x.drop(0), NULL);
        due("SHEET 1", x.drop(1), 4);
        due("THE TAPE", x.type('2'), 7);
        due("settle()", x.settle(), 1);
        due("CELL", x.of(0, 2), cell(2, 2));
    }

    static void promise26AgainAndAgain() {
        FootIsle x = nine();
        x.image();
        for (int i = 0; i < 3; i++) {
            x.hours(3);
            x.undo();
            x.undo();
            x.undo();
            x.undo();
            x.step(0, 3);
            x.isle(WIND, 9);
            due("restore()", x.restore(), 1);
            due("WIND", x.count(3), 2);
            due("CELL", x.of(0, 2), cell(3, 3));
            due("print", x.print(0, cell(3, 3)), 3);
            due("count(7)", x.count(7), 1);
        }
        due("undo()", x.undo(), 0);
        due("CELL", x.of(0, 2), cell(2, 3));
    }

    static void promise26ARestoringIsNotUndone() {
        FootIsle x = isle("21;p133");
        x.image();
        x.step(0, 0);
        x.restore();
        due("undo()", x.undo(), NONE);
        due("CELL", x.of(0, 2), cell(3, 3));
    }

    static void promise26WalkersThatCameSinceAreGone() {
        FootIsle x = isle("21;p133");
        x.image();
        for (int i = 0; i < 5; i++) {
            x.walker(0, 9, i);
        }
        x.restore();
        due("count(0)", x.count(0), 1);
        due("of(1, 0)", x.of(1, 0), BAD);
        due("walker", x.walker(0, 1, 0), 1);
    }

    static void promise26WalkersThatWereThereAreBack() {
        FootIsle x = isle("21;p133,s244,k355");
        x.step(2, 0);
        x.image();
        settleAs(x, "21;p100");
        x.restore();
        due("count(0)", x.count(0), 3);
        due("KIND", x.of(2, 0), 3);
        due("print", x.print(2, cell(6, 5)), 6);
        due("whose shoes", x.of(1, 5), 2);
    }

    static void promise26EightThatMayBeUndoneAreBack() {
        FootIsle x = isle("21;p100");
        walk(x, 0, "00000001111"); // eleven
        x.image();
        for (int i = 0; i < 6; i++) {
            x.undo();
        }
        x.hours(3);
        x.restore();
        for (int left = 7; left >= 0; left--) {
            due("undo()", x.undo(), left);
            due("STEPS", x.of(0, 3), 3 + left);
            due("HOUR", x.count(1), 0);
        }
        due("undo()", x.undo(), NONE);
    }
}
