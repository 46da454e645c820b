/** Edges of promises 1 to 7 and 10: a new object, walkers, the isle's numbers, prints, claims, who holds what. */
final class WalkerEdges extends Sand {
    private static final int[] LEAST_OF_ISLE = {0, 0, 0, 2, 0};
    private static final int[] MOST_OF_ISLE = {8, 9, 3, 12, 8};
    private static final int[] FIRST_OF_ISLE = {3, 2, 1, 6, 2};

    private WalkerEdges() {
    }

    // ---- promise 1

    static void promise01AllIsAsToldAtFirst() {
        FootIsle x = new FootIsle();
        int[] want = {0, 0, 3, 2, 1, 6, 2, 0, 0, 0};
        for (int what = 0; what < 10; what++) {
            due("count(" + what + ")", x.count(what), want[what]);
        }
        due("THE DRAW", x.seed(1), 1);
        due("nothing to be UNDONE", x.undo(), NONE);
        due("no IMAGE", x.restore(), NONE);
        due("the 1st letter of THE TAPE", x.type(' '), 1);
    }

    static void promise01NobodyIsThereAtFirst() {
        FootIsle x = new FootIsle();
        due("of(0, 0)", x.of(0, 0), BAD);
        due("print(0, 0)", x.print(0, 0), BAD);
        due("claim(0, 0)", x.claim(0, 0), BAD);
        due("step(0, 0)", x.step(0, 0), BAD);
        due("land(0, 0)", x.land(0, 0), BAD);
        due("lasts(0, 0)", x.lasts(0, 0), BAD);
        due("county(0)", x.county(0), BAD);
        due("way(0, 0, 0)", x.way(0, 0, 0), BAD);
        due("walk(0, 0, 0, -1)", x.walk(0, 0, 0, -1), BAD);
        due("well(0, 0, 0)", x.well(0, 0, 0), BAD);
        due("crabs(0, 0, 0, 0)", x.crabs(0, 0, 0, 0), BAD);
        due("sheet(0, 0, 1)", x.sheet(0, 0, 1), 1);
        due("film(0, 1, 0, 0, 0)", x.film(0, 1, 0, 0, 0), BAD);
    }

    static void promise01AllSheetsAreNothingAtFirst() {
        FootIsle x = new FootIsle();
        for (int s = 0; s < 4; s++) {
            due("drop(" + s + ")", x.drop(s), NULL);
        }
    }

    static void promise01The512thCallAnswers() {
        FootIsle x = new FootIsle();
        x.walker(0, 1, 0);
        for (int i = 0; i < 510; i++) {
            x.step(0, i % 2 == 0 ? 0 : 2);
        }
        due("STEPS by the 512th call", x.of(0, 3), 510);
    }

    static void promise01ObjectsAreApart() {
        FootIsle x = busy();
        sameAll("a new one, with another beside it", new FootIsle(), new FootIsle());
        sameAll("one in use, with another beside it", x, busy());
    }

    // ---- promise 2

    static void promise02KindIs0To4() {
        FootIsle x = new FootIsle();
        due("KIND -1", x.walker(-1, 1, 0), BAD);
        due("KIND 5", x.walker(5, 1, 0), BAD);
        due("KIND least", x.walker(LEAST, 1, 0), BAD);
        due("KIND most", x.walker(MOST, 1, 0), BAD);
        due("KIND 0", x.walker(0, 1, 0), 0);
        due("KIND 4", x.walker(4, 1, 0), 1);
        due("of(0, 0)", x.of(0, 0), 0);
        due("of(1, 0)", x.of(1, 0), 4);
    }

    static void promise02WeightIs1To9() {
        FootIsle x = new FootIsle();
        due("WEIGHT 0", x.walker(0, 0, 0), BAD);
        due("WEIGHT 10", x.walker(0, 10, 0), BAD);
        due("WEIGHT least", x.walker(0, LEAST, 0), BAD);
        due("WEIGHT most", x.walker(0, MOST, 0), BAD);
        due("WEIGHT 1", x.walker(0, 1, 0), 0);
        due("WEIGHT 9", x.walker(0, 9, 0), 1);
        due("of(0, 1)", x.of(0, 1), 1);
        due("of(1, 1)", x.of(1, 1), 9);
    }

    static void promise02CellIs0To63() {
        FootIsle x = new FootIsle();
        due("CELL -1", x.walker(0, 1, -1), BAD);
        due("CELL 64", x.walker(0, 1, 64), BAD);
        due("CELL least", x.walker(0, 1, LEAST), BAD);
        due("CELL most", x.walker(0, 1, MOST), BAD);
        due("CELL 0", x.walker(0, 1, 0), 0);
        due("CELL 63", x.walker(0, 1, 63), 1);
        due("of(0, 2)", x.of(0, 2), 0);
        due("of(1, 2)", x.of(1, 2), 63);
    }

    static void promise02SixAreFull() {
        FootIsle x = new FootIsle();
        for (int i = 0; i < 6; i++) {
            due("walker " + i, x.walker(0, 1, i), i);
            due("count(0)", x.count(0), i + 1);
        }
        due("a seventh", x.walker(0, 1, 7), FULL);
        due("count(0)", x.count(0), 6);
        due("of(6, 0)", x.of(6, 0), BAD);
    }

    static void promise02SixOfATextAreFull() {
        FootIsle x = isle("21;p100,p110,p120,p130,p140");
        due("the sixth", x.walker(0, 1, 0), 5);
        due("a seventh", x.walker(0, 1, 0), FULL);
    }

    static void promise02BadStandsAheadOfFull() {
        FootIsle x = isle("21;p100,p110,p120,p130,p140,p150");
        due("KIND 5", x.walker(5, 1, 0), BAD);
        due("WEIGHT 0", x.walker(0, 0, 0), BAD);
        due("CELL 64", x.walker(0, 1, 64), BAD);
        due("none of these", x.walker(0, 1, 0), FULL);
    }

    static void promise02WhatIsRefusedLeavesAll() {
        refused("KIND 5", Sand::busy, BAD, x -> x.walker(5, 1, 0));
        refused("WEIGHT 10", Sand::busy, BAD, x -> x.walker(0, 10, 0));
        refused("CELL -1", Sand::busy, BAD, x -> x.walker(0, 1, -1));
    }

    static void promise02FullLeavesWhatMayBeUndone() {
        FootIsle x = isle("21;p100,p110,p120,p130,p140,p150");
        x.step(0, 1);
        due("a seventh", x.walker(0, 1, 0), FULL);
        due("count(7)", x.count(7), 1);
        due("undo()", x.undo(), 0);
        due("of(0, 2)", x.of(0, 2), 0);
    }

    static void promise02ANewWalkerLeavesNothingToBeUndone() {
        FootIsle x = nine();
        due("count(7)", x.count(7), 1);
        x.walker(0, 1, 0);
        due("count(7)", x.count(7), 0);
        due("undo()", x.undo(), NONE);
        due("the print stays", x.print(0, cell(3, 3)), 3);
    }

    static void promise02ANewWalkerHasNoStepsNoPrints() {
        FootIsle x = isle("21;p100,p111");
        walk(x, 1, "00");
        settleAs(x, "21;p100");
        due("walker", x.walker(0, 2, 9), 1);
        due("STEPS", x.of(1, 3), 0);
        for (int c = 0; c < 64; c++) {
            due("PRINT in " + c, x.print(1, c), 0);
        }
    }

    static void promise02ANewWalkerBehindAnImageHasNoStepsNoPrints() {
        FootIsle x = isle("21;p100");
        x.image();
        x.walker(0, 9, 9);
        walk(x, 1, "00");
        x.restore();
        due("walker", x.walker(0, 2, 9), 1);
        due("STEPS", x.of(1, 3), 0);
        due("PRINT in 10", x.print(1, 10), 0);
        due("PRINT in 11", x.print(1, 11), 0);
    }

    // ---- promise 3

    static void promise03WalkerIsOneThatIsThere() {
        FootIsle x = isle("21;p100,p111");
        for (int what = 0; what < 7; what++) {
            due("of(-1, " + what + ")", x.of(-1, what), BAD);
            due("of(2, " + what + ")", x.of(2, what), BAD);
            due("of(least, " + what + ")", x.of(LEAST, what), BAD);
            due("of(most, " + what + ")", x.of(MOST, what), BAD);
        }
        due("of(0, 2)", x.of(0, 2), 0);
        due("of(1, 2)", x.of(1, 2), 9);
    }

    static void promise03WalkerIs5AtMost() {
        FootIsle x = isle("21;p100,p110,p120,p130,p140,o957");
        due("of(5, 0)", x.of(5, 0), 4);
        due("of(6, 0)", x.of(6, 0), BAD);
    }

    static void promise03WhatIs0To6() {
        FootIsle x = nine();
        due("of(0, -1)", x.of(0, -1), BAD);
        due("of(0, 7)", x.of(0, 7), BAD);
        due("of(0, least)", x.of(0, LEAST), BAD);
        due("of(0, most)", x.of(0, MOST), BAD);
        due("of(0, 0)", x.of(0, 0), 0);
        due("of(0, 6)", x.of(0, 6), 9);
    }

    static void promise03StepsAre0AtFirst() {
        FootIsle x = isle("21;o100");
        due("at first", x.of(0, 3), 0);
        x.step(0, 2);
        due("a STEP that is refused", x.of(0, 3), 0);
        x.step(0, 0);
        due("a STEP by which no foot comes down", x.of(0, 3), 1);
        x.step(0, 0);
        due("one more", x.of(0, 3), 2);
    }

    static void promise03HowDeepOfWeight1And9() {
        int[] ofOne = {1, 1, 2, 2, 2};
        int[] ofNine = {9, 9, 18, 18, 10};
        for (int kind = 0; kind < 5; kind++) {
            FootIsle x = new FootIsle();
            x.walker(kind, 1, 0);
            x.walker(kind, 9, 0);
            due("KIND " + kind + ", WEIGHT 1", x.of(0, 4), ofOne[kind]);
            due("KIND " + kind + ", WEIGHT 9", x.of(1, 4), ofNine[kind]);
        }
    }

    static void promise03TheLastOnesNextIsWalker0() {
        FootIsle x = isle("21;s100,s110,s120,s130,s140,s150");
        for (int w = 0; w < 5; w++) {
            due("whose shoes, of " + w, x.of(w, 5), w + 1);
        }
        due("whose shoes, of the last", x.of(5, 5), 0);
    }

    static void promise03TheLastOneOfTwoWearsWalker0s() {
        FootIsle x = isle("21;p100,s110");
        due("whose shoes", x.of(1, 5), 0);
        x.walker(0, 1, 0);
        due("the next one's, as soon as one has come", x.of(1, 5), 2);
    }

    static void promise03OneAloneIsItsOwnNext() {
        due("whose shoes", isle("21;s100").of(0, 5), 0);
    }

    static void promise03OthersWearTheirOwn() {
        FootIsle x = isle("21;p100,h110,k120,o130");
        for (int w = 0; w < 4; w++) {
            due("whose shoes, of " + w, x.of(w, 5), w);
        }
    }

    /** Behind these steps one holds all 64 cells, by reach 3. */
    private static FootIsle allHeld() {
        FootIsle x = isle("03;p923,p100");
        walk(x, 0, "0012"); // 9 at 3 3, 4 3, 4 4, 3 4
        return x;
    }

    static void promise03LandIs0To64() {
        FootIsle x = isle("03;p923,p100");
        due("LAND of nobody's prints", x.of(0, 6), 0);
        walk(x, 0, "001");
        due("LAND, all but a corner row", x.of(0, 6), 63);
        walk(x, 0, "2");
        due("LAND of all", x.of(0, 6), 64);
        due("LAND of the other", x.of(1, 6), 0);
    }

    static void promise03LandIsThatOfNow() {
        FootIsle x = alikeNow();
        due("WALKER 0", x.of(0, 6), 3);
        due("WALKER 1", x.of(1, 6), 3);
    }

    // ---- promise 4

    static void promise04WhatIs0To4() {
        FootIsle x = new FootIsle();
        due("isle(-1, 2)", x.isle(-1, 2), BAD);
        due("isle(5, 2)", x.isle(5, 2), BAD);
        due("isle(least, 2)", x.isle(LEAST, 2), BAD);
        due("isle(most, 2)", x.isle(MOST, 2), BAD);
        due("isle(0, 2)", x.isle(0, 2), 3);
        due("isle(4, 3)", x.isle(4, 3), 2);
    }

    private static void edgesOfIsle(int what) {
        FootIsle x = new FootIsle();
        due("below", x.isle(what, LEAST_OF_ISLE[what] - 1), BAD);
        due("above", x.isle(what, MOST_OF_ISLE[what] + 1), BAD);
        due("least int", x.isle(what, LEAST), BAD);
        due("most int", x.isle(what, MOST), BAD);
        due("as it was", x.count(what + 2), FIRST_OF_ISLE[what]);
        due("least", x.isle(what, LEAST_OF_ISLE[what]), FIRST_OF_ISLE[what]);
        due("it is the least", x.count(what + 2), LEAST_OF_ISLE[what]);
        due("most", x.isle(what, MOST_OF_ISLE[what]), LEAST_OF_ISLE[what]);
        due("it is the most", x.count(what + 2), MOST_OF_ISLE[what]);
        for (int other = 0; other < 5; other++) {
            due("no other, " + other, x.count(other + 2), other == what ? MOST_OF_ISLE[what] : FIRST_OF_ISLE[other]);
        }
    }

    static void promise04WetIs0To8() {
        edgesOfIsle(WET);
    }

    static void promise04WindIs0To9() {
        edgesOfIsle(WIND);
    }

    static void promise04ReachIs0To3() {
        edgesOfIsle(REACH);
    }

    static void promise04TideIs2To12() {
        edgesOfIsle(TIDE);
    }

    static void promise04FloodIs0To8() {
        edgesOfIsle(FLOOD);
    }

    static void promise04WhatIsRefusedLeavesAll() {
        refused("isle(5, 2)", Sand::busy, BAD, x -> x.isle(5, 2));
        refused("isle(-1, 2)", Sand::busy, BAD, x -> x.isle(-1, 2));
        refused("isle(0, 9)", Sand::busy, BAD, x -> x.isle(0, 9));
        refused("isle(1, 10)", Sand::busy, BAD, x -> x.isle(1, 10));
        refused("isle(2, 4)", Sand::busy, BAD, x -> x.isle(2, 4));
        refused("isle(3, 1)", Sand::busy, BAD, x -> x.isle(3, 1));
        refused("isle(4, -1)", Sand::busy, BAD, x -> x.isle(4, -1));
    }

    static void promise04WhatMayBeUndoneStays() {
        FootIsle x = nine();
        for (int what = 0; what < 5; what++) {
            x.isle(what, 2);
        }
        due("count(7)", x.count(7), 1);
    }

    /** One walker's prints in column 0: 18 deep in rows 0 and 7, 36 deep between. */
    private static FootIsle column() {
        FootIsle x = isle("40;k900");
        walk(x, 0, "1111111");
        return x;
    }

    private static void expectColumn(FootIsle x, int... deep) {
        for (int y = 0; y < 8; y++) {
            due("row " + y, x.print(0, cell(0, y)), deep[y]);
        }
    }

    static void promise04Wet3AtFirstEndsAtRow2() {
        FootIsle x = column();
        x.isle(FLOOD, 0);
        x.hours(1);
        expectColumn(x, 17, 35, 35, 32, 32, 32, 32, 14);
    }

    static void promise04Wet0LeavesNoRowWet() {
        FootIsle x = column();
        x.isle(WET, 0);
        x.hours(1);
        expectColumn(x, 14, 32, 32, 32, 32, 32, 32, 14);
    }

    static void promise04Wet1IsTheShoreAlone() {
        FootIsle x = column();
        x.isle(WET, 1);
        x.hours(1);
        expectColumn(x, 17, 32, 32, 32, 32, 32, 32, 14);
    }

    static void promise04Wet7LeavesTheLastRowDry() {
        FootIsle x = column();
        x.isle(WET, 7);
        x.hours(1);
        expectColumn(x, 17, 35, 35, 35, 35, 35, 35, 14);
    }

    static void promise04Wet8LeavesNoRowDry() {
        FootIsle x = column();
        x.isle(WET, 8);
        x.hours(1);
        expectColumn(x, 17, 35, 35, 35, 35, 35, 35, 17);
    }

    static void promise04Wind0LeavesDrySandAsItIs() {
        FootIsle x = column();
        x.isle(WIND, 0);
        x.hours(1);
        expectColumn(x, 17, 35, 35, 36, 36, 36, 36, 18);
    }

    static void promise04Wind9Takes9OfDrySand() {
        FootIsle x = column();
        x.isle(WIND, 9);
        x.hours(2);
        expectColumn(x, 16, 34, 34, 18, 18, 18, 18, 0);
    }

    static void promise04Flood0LeavesAllRows() {
        FootIsle x = column();
        x.isle(FLOOD, 0);
        x.isle(WET, 8);
        x.hours(6);
        expectColumn(x, 12, 30, 30, 30, 30, 30, 30, 12);
    }

    static void promise04Flood1TakesTheShoreAlone() {
        FootIsle x = column();
        x.isle(FLOOD, 1);
        x.isle(WET, 8);
        x.hours(6);
        expectColumn(x, 0, 30, 30, 30, 30, 30, 30, 12);
    }

    static void promise04Flood2AtFirstEndsAtRow1() {
        FootIsle x = column();
        x.isle(WET, 8);
        x.hours(6);
        expectColumn(x, 0, 0, 30, 30, 30, 30, 30, 12);
    }

    static void promise04Flood7LeavesTheLastRow() {
        FootIsle x = column();
        x.isle(FLOOD, 7);
        x.isle(WET, 8);
        x.hours(6);
        expectColumn(x, 0, 0, 0, 0, 0, 0, 0, 12);
    }

    static void promise04Flood8TakesAllRows() {
        FootIsle x = column();
        x.isle(FLOOD, 8);
        x.isle(WET, 8);
        x.hours(6);
        expectColumn(x, 0, 0, 0, 0, 0, 0, 0, 0);
    }

    static void promise04FloodReachesBeyondWetSand() {
        FootIsle x = column();
        x.isle(FLOOD, 4);
        x.isle(WET, 1);
        x.hours(6);
        expectColumn(x, 0, 0, 0, 0, 12, 12, 12, 0);
    }

    private static void expectFlood(int tide, int firstHour) {
        FootIsle x = column();
        x.isle(TIDE, tide);
        for (int hour = 1; hour < firstHour; hour++) {
            x.hours(1);
            due("TIDE " + tide + ", hour " + hour, x.print(0, cell(0, 1)), 36 - hour);
        }
        x.hours(1);
        due("TIDE " + tide + ", hour " + firstHour, x.print(0, cell(0, 1)), 0);
    }

    static void promise04Tide2Comes2HoursOn() {
        expectFlood(2, 2);
    }

    static void promise04Tide6AtFirstComes6HoursOn() {
        expectFlood(6, 6);
    }

    static void promise04Tide12Comes12HoursOn() {
        expectFlood(12, 12);
    }

    // ---- promise 5

    static void promise05WalkerIsOneThatIsThere() {
        FootIsle x = isle("21;p133,p100");
        x.step(1, 0);
        due("print(-1, 1)", x.print(-1, 1), BAD);
        due("print(2, 1)", x.print(2, 1), BAD);
        due("print(least, 1)", x.print(LEAST, 1), BAD);
        due("print(most, 1)", x.print(MOST, 1), BAD);
        due("print(0, 1)", x.print(0, 1), 0);
        due("print(1, 1)", x.print(1, 1), 1);
    }

    static void promise05CellIs0To63() {
        FootIsle x = isle("21;p110,p267");
        x.step(0, 2);
        x.step(1, 0);
        due("print(0, -1)", x.print(0, -1), BAD);
        due("print(0, 64)", x.print(0, 64), BAD);
        due("print(1, -1)", x.print(1, -1), BAD);
        due("print(0, least)", x.print(0, LEAST), BAD);
        due("print(0, most)", x.print(0, MOST), BAD);
        due("print(0, 0)", x.print(0, 0), 1);
        due("print(0, 63)", x.print(0, 63), 0);
        due("print(1, 0)", x.print(1, 0), 0);
        due("print(1, 63)", x.print(1, 63), 2);
    }

    static void promise05AllPrintsAre0AtFirst() {
        FootIsle x = isle("21;p100,k177,o133");
        for (int c = 0; c < 64; c++) {
            due("in " + c, x.print(0, c) + x.print(1, c) + x.print(2, c), 0);
        }
    }

    static void promise05PlainIs99DeepAtMost() {
        FootIsle x = isle("21;p933");
        for (int i = 1; i <= 12; i++) {
            walk(x, 0, "02");
            due("print, " + i + " times", x.print(0, cell(4, 3)), i <= 11 ? 9 * i : 99);
        }
    }

    static void promise05From98OneMoreIs99() {
        FootIsle x = isle("21;p733,s133");
        for (int i = 0; i < 14; i++) {
            walk(x, 0, "02");
        }
        due("98", x.print(0, cell(4, 3)), 98);
        x.step(1, 0);
        due("99", x.print(0, cell(4, 3)), 99);
        walk(x, 1, "20");
        due("99 still", x.print(0, cell(4, 3)), 99);
    }

    static void promise05HeavyIs99DeepAtMost() {
        FootIsle x = isle("21;h933");
        for (int i = 1; i <= 6; i++) {
            walk(x, 0, "02");
            due("print, " + i + " times", x.print(0, cell(4, 3)), i <= 5 ? 18 * i : 99);
        }
    }

    static void promise05BothCellsOfAHorseAre99DeepAtMost() {
        FootIsle x = isle("21;k933");
        for (int i = 1; i <= 6; i++) {
            x.step(0, i % 2 == 1 ? 0 : 2);
            due("one, " + i + " times", x.print(0, cell(3, 3)), i <= 5 ? 18 * i : 99);
            due("the other", x.print(0, cell(4, 3)), i <= 5 ? 18 * i : 99);
        }
    }

    static void promise05HopperIs99DeepAtMost() {
        FootIsle x = isle("21;o933");
        for (int i = 1; i <= 10; i++) {
            walk(x, 0, "02");
            due("print, " + i + " times", x.print(0, cell(3, 3)), i <= 9 ? 10 * i : 99);
            due("where no foot comes down", x.print(0, cell(4, 3)), 0);
        }
    }

    static void promise05AnothersShoesAre99DeepAtMost() {
        FootIsle x = isle("21;p100,s933");
        for (int i = 1; i <= 12; i++) {
            walk(x, 1, "02");
        }
        due("print", x.print(0, cell(4, 3)), 99);
        due("its own", x.print(1, cell(4, 3)), 0);
    }

    // ---- promise 6

    static void promise06WalkerIsOneThatIsThere() {
        FootIsle x = isle("21;p333,p100");
        x.step(1, 0);
        due("claim(-1, 1)", x.claim(-1, 1), BAD);
        due("claim(2, 1)", x.claim(2, 1), BAD);
        due("claim(least, 1)", x.claim(LEAST, 1), BAD);
        due("claim(most, 1)", x.claim(MOST, 1), BAD);
        due("claim(0, 1)", x.claim(0, 1), 0);
        due("claim(1, 1)", x.claim(1, 1), 1);
    }

    static void promise06CellIs0To63() {
        FootIsle x = isle("21;p110,p267");
        x.step(0, 2);
        x.step(1, 0);
        due("claim(0, -1)", x.claim(0, -1), BAD);
        due("claim(0, 64)", x.claim(0, 64), BAD);
        due("claim(0, least)", x.claim(0, LEAST), BAD);
        due("claim(0, most)", x.claim(0, MOST), BAD);
        due("claim(0, 0)", x.claim(0, 0), 1);
        due("claim(1, 0)", x.claim(1, 0), 0);
        due("claim(0, 63)", x.claim(0, 63), 0);
        due("claim(1, 63)", x.claim(1, 63), 2);
    }

    /** One print, 3 deep, at a place: each cell's claim is 3 as far as reach goes, 0 beyond. */
    private static void expectReach(int reach, int px, int py) {
        FootIsle x = new FootIsle();
        x.walker(0, 3, cell(px, py == 0 ? 1 : py - 1));
        x.step(0, py == 0 ? 3 : 1);
        x.isle(REACH, reach);
        for (int c = 0; c < 64; c++) {
            boolean near = Math.abs(c % 8 - px) <= reach && Math.abs(c / 8 - py) <= reach;
            due("REACH " + reach + ", from " + px + " " + py + " to " + c, x.claim(0, c), near ? 3 : 0);
        }
    }

    static void promise06Reach0IsTheCellAlone() {
        expectReach(0, 3, 3);
        expectReach(0, 0, 0);
        expectReach(0, 7, 7);
    }

    static void promise06Reach1IsOneColumnOneRowOff() {
        expectReach(1, 3, 3);
    }

    static void promise06Reach2IsTwoColumnsTwoRowsOff() {
        expectReach(2, 3, 3);
    }

    static void promise06Reach3IsThreeColumnsThreeRowsOff() {
        expectReach(3, 3, 3);
        expectReach(3, 4, 4);
    }

    static void promise06ReachEndsAtTheRim() {
        for (int reach = 1; reach <= 3; reach++) {
            expectReach(reach, 0, 0);
            expectReach(reach, 7, 0);
            expectReach(reach, 0, 7);
            expectReach(reach, 7, 7);
            expectReach(reach, 7, 3);
            expectReach(reach, 0, 4);
        }
    }

    static void promise06ClaimIsTheDeepestPrint() {
        FootIsle x = isle("21;p333");
        walk(x, 0, "0020"); // 6 at 4 3 and 5 3
        walk(x, 0, "0"); // 3 at 6 3
        due("near the shallow one alone", x.claim(0, cell(7, 3)), 3);
        due("near both", x.claim(0, cell(6, 3)), 6);
        due("not their sum", x.claim(0, cell(5, 3)), 6);
    }

    static void promise06AnotherOnesPrintsAreNoClaim() {
        FootIsle x = isle("21;p101,p367,p133");
        x.step(0, 3); // 1 at 0 0
        x.step(1, 0); // 3 at 7 7
        due("WALKER 1 in cell 0", x.claim(1, 0), 0);
        due("WALKER 0 in cell 63", x.claim(0, 63), 0);
        due("WALKER 2 in cell 0", x.claim(2, 0), 0);
        due("WALKER 2 in cell 63", x.claim(2, 63), 0);
    }

    static void promise06ClaimIsUpTo99() {
        FootIsle x = isle("21;h933");
        for (int i = 0; i < 6; i++) {
            walk(x, 0, "02");
        }
        due("claim", x.claim(0, cell(3, 3)), 99);
    }

    static void promise06ClaimIsThatOfNow() {
        FootIsle x = alikeNow();
        due("WALKER 0", x.claim(0, cell(3, 1)), 3);
        due("WALKER 1", x.claim(1, cell(3, 4)), 3);
    }

    // ---- promise 7

    static void promise07CellIs0To63() {
        FootIsle x = isle("21;p110,p267");
        x.step(0, 2);
        x.step(1, 0);
        due("held(-1)", x.held(-1), BAD);
        due("held(64)", x.held(64), BAD);
        due("held(least)", x.held(LEAST), BAD);
        due("held(most)", x.held(MOST), BAD);
        due("held(0)", x.held(0), 0);
        due("held(63)", x.held(63), 1);
    }

    static void promise07AClaimOf0HoldsNothing() {
        FootIsle x = isle("21;p133,p100");
        for (int c = 0; c < 64; c++) {
            due("held(" + c + ")", x.held(c), NONE);
        }
    }

    static void promise07AClaimOf1Holds() {
        FootIsle x = isle("21;p133,p100");
        x.step(0, 0);
        due("held", x.held(cell(4, 3)), 0);
        x.undo();
        due("not held", x.held(cell(4, 3)), NONE);
    }

    static void promise07OneDeeperHolds() {
        FootIsle x = isle("21;p433,p533");
        x.step(0, 0);
        x.step(1, 0);
        due("held", x.held(cell(4, 3)), 1);
        x = isle("21;p533,p433");
        x.step(0, 0);
        x.step(1, 0);
        due("held, the other way round", x.held(cell(4, 3)), 0);
    }

    static void promise07IfTwoHaveTheGreatestNobodyHolds() {
        FootIsle x = isle("21;p433,p433,p333");
        x.step(0, 0);
        x.step(1, 0);
        due("two alike", x.held(cell(4, 3)), NONE);
        x.step(2, 0);
        due("two alike and a lesser one", x.held(cell(4, 3)), NONE);
    }

    static void promise07TwoLesserOnesAlikeDoNotMatter() {
        String[] texts = {"21;p333,p333,p433", "21;p333,p433,p333", "21;p433,p333,p333"};
        for (int i = 0; i < 3; i++) {
            FootIsle x = isle(texts[i]);
            for (int w = 0; w < 3; w++) {
                x.step(w, 0);
            }
            due("held", x.held(cell(4, 3)), 2 - i);
        }
    }

    static void promise07IfAllSixHaveTheGreatestNobodyHolds() {
        FootIsle x = isle("21;p333,p333,p333,p333,p333,p333");
        for (int w = 0; w < 6; w++) {
            x.step(w, 0);
        }
        due("six alike", x.held(cell(4, 3)), NONE);
        walk(x, 5, "20");
        due("the sixth is deeper", x.held(cell(4, 3)), 5);
    }

    static void promise07HeldIsThatOfNow() {
        FootIsle x = alikeNow();
        due("near both", x.held(cell(3, 2)), NONE);
        due("near both", x.held(cell(3, 3)), NONE);
        due("near WALKER 0's", x.held(cell(3, 1)), 0);
        due("near WALKER 1's", x.held(cell(3, 4)), 1);
    }

    // ---- promise 10

    static void promise10WhatIs0To9() {
        FootIsle x = nine();
        due("count(-1)", x.count(-1), BAD);
        due("count(10)", x.count(10), BAD);
        due("count(least)", x.count(LEAST), BAD);
        due("count(most)", x.count(MOST), BAD);
        due("count(0)", x.count(0), 1);
        due("count(9)", x.count(9), 1);
    }

    static void promise10WalkersAre0To6() {
        FootIsle x = new FootIsle();
        due("none", x.count(0), 0);
        for (int i = 0; i < 7; i++) {
            x.walker(0, 1, 0);
        }
        due("six", x.count(0), 6);
    }

    static void promise10WhatMayBeUndoneIs0To8() {
        FootIsle x = isle("21;p133");
        for (int i = 0; i < 10; i++) {
            due("behind " + i, x.count(7), Math.min(8, i));
            x.rake(0);
        }
    }

    static void promise10HeldCellsAre0To64() {
        FootIsle x = isle("03;p923,p100");
        due("none", x.count(8), 0);
        due("all", allHeld().count(8), 64);
        FootIsle y = isle("21;p333,p333");
        y.step(0, 0);
        y.step(1, 0);
        due("none, by two alike", y.count(8), 0);
    }

    static void promise10CellsWithPrintsAre0To64() {
        FootIsle x = isle("01;k900,k900");
        due("none", x.count(9), 0);
        for (int y = 0; y < 8; y++) {
            walk(x, 0, y % 2 == 0 ? "0000000" : "2222222");
            walk(x, 0, "1");
        }
        due("all", x.count(9), 64);
        x.rake(63);
        due("all but one", x.count(9), 63);
        x.rake(0);
        due("all but two", x.count(9), 62);
    }

    static void promise10ACellWithTwoPrintsCountsOnce() {
        FootIsle x = isle("21;p333,p333");
        x.step(0, 0);
        x.step(1, 0);
        due("one cell", x.count(9), 1);
    }

    static void promise10HeldCellsAreThoseOfNow() {
        due("count(8)", alikeNow().count(8), 10);
    }

    static void promise10ACellOfAnyWalkersPrintCounts() {
        FootIsle x = isle("21;p133,p133,p133,p133,p133,p110");
        x.step(5, 2);
        due("cell 0, of the sixth", x.count(9), 1);
        FootIsle y = isle("21;p133,p110");
        y.step(1, 2);
        due("cell 0, of WALKER 1", y.count(9), 1);
    }

    static void promise10NothingIsChanged() {
        for (int what = -1; what <= 10; what++) {
            int asked = what;
            FootIsle x = busy();
            x.count(asked);
            sameAll("count(" + asked + ")", x, busy());
        }
    }
}
