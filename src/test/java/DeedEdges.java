/** Edges of promises 11 to 16: steps, hours, drifts, rakings, what is undone, the draw. */
final class DeedEdges extends Sand {
    private DeedEdges() {
    }

    // ---- promise 11

    static void promise11WalkerIsOneThatIsThere() {
        FootIsle x = isle("21;p133,p100");
        due("step(-1, 0)", x.step(-1, 0), BAD);
        due("step(2, 0)", x.step(2, 0), BAD);
        due("step(least, 0)", x.step(LEAST, 0), BAD);
        due("step(most, 0)", x.step(MOST, 0), BAD);
        due("step(0, 0)", x.step(0, 0), cell(4, 3));
        due("step(1, 0)", x.step(1, 0), cell(1, 0));
    }

    static void promise11WayIs0To3() {
        FootIsle x = isle("21;p133");
        due("way -1", x.step(0, -1), BAD);
        due("way 4", x.step(0, 4), BAD);
        due("way least", x.step(0, LEAST), BAD);
        due("way most", x.step(0, MOST), BAD);
        due("way 0", x.step(0, 0), cell(4, 3));
        due("way 1", x.step(0, 1), cell(4, 4));
        due("way 2", x.step(0, 2), cell(3, 4));
        due("way 3", x.step(0, 3), cell(3, 3));
    }

    static void promise11BadStandsAheadOfNot() {
        FootIsle x = isle("21;p100");
        due("a way that is none, in a corner", x.step(0, 4), BAD);
        due("one who is not there, beyond THE ISLE", x.step(1, 2), BAD);
        due("beyond THE ISLE", x.step(0, 2), NOT);
    }

    static void promise11NotBeyondX7() {
        for (int y = 0; y < 8; y++) {
            FootIsle x = isle("21;p16" + y);
            due("to x 7", x.step(0, 0), cell(7, y));
            due("beyond", x.step(0, 0), NOT);
            due("CELL", x.of(0, 2), cell(7, y));
        }
    }

    static void promise11NotBeyondY7() {
        for (int at = 0; at < 8; at++) {
            FootIsle x = isle("21;p1" + at + "6");
            due("to y 7", x.step(0, 1), cell(at, 7));
            due("beyond", x.step(0, 1), NOT);
            due("CELL", x.of(0, 2), cell(at, 7));
        }
    }

    static void promise11NotBeyondX0() {
        for (int y = 0; y < 8; y++) {
            FootIsle x = isle("21;p11" + y);
            due("to x 0", x.step(0, 2), cell(0, y));
            due("beyond", x.step(0, 2), NOT);
            due("CELL", x.of(0, 2), cell(0, y));
        }
    }

    static void promise11NotBeyondY0() {
        for (int at = 0; at < 8; at++) {
            FootIsle x = isle("21;p1" + at + "1");
            due("to y 0", x.step(0, 3), cell(at, 0));
            due("beyond", x.step(0, 3), NOT);
            due("CELL", x.of(0, 2), cell(at, 0));
        }
    }

    private static FootIsle inACorner() {
        FootIsle x = isle("21;k367");
        x.step(0, 0);
        x.seed(5);
        return x;
    }

    static void promise11WhatIsRefusedLeavesAll() {
        refused("step(0, 4)", Sand::busy, BAD, x -> x.step(0, 4));
        refused("step(0, -1)", Sand::busy, BAD, x -> x.step(0, -1));
        refused("step(1, 0)", Sand::busy, BAD, x -> x.step(1, 0));
        refused("step(0, 0)", DeedEdges::inACorner, NOT, x -> x.step(0, 0));
        refused("step(0, 1)", DeedEdges::inACorner, NOT, x -> x.step(0, 1));
    }

    static void promise11ARefusedStepOfAHopperIsNoStep() {
        FootIsle x = isle("21;o301");
        x.step(0, 3);
        due("beyond", x.step(0, 3), NOT);
        x.step(0, 0);
        due("its second", x.print(0, 1), 4);
    }

    static void promise11TheFootComesDownWhereItHasComeTo() {
        FootIsle x = isle("21;p333,h433");
        x.step(0, 0);
        x.step(1, 2);
        due("PLAIN, where it is", x.print(0, cell(4, 3)), 3);
        due("PLAIN, what it has left", x.print(0, cell(3, 3)), 0);
        due("HEAVY, where it is", x.print(1, cell(2, 3)), 8);
        due("HEAVY, what it has left", x.print(1, cell(3, 3)), 0);
    }

    static void promise11AHorsesFootComesDownOnBothCells() {
        FootIsle x = isle("21;k433");
        x.step(0, 1);
        due("where it is", x.print(0, cell(3, 4)), 8);
        due("what it has left", x.print(0, cell(3, 3)), 8);
        due("no other", x.count(9), 2);
    }

    static void promise11AHoppersFootComesDownAtEachOtherStep() {
        FootIsle x = isle("21;o310");
        int[] want = {0, 0, 4, 0, 4, 0, 4};
        for (int step = 1; step <= 6; step++) {
            due("step " + step, x.step(0, 0), 1 + step);
            due("print of step " + step, x.print(0, 1 + step), want[step]);
        }
    }

    static void promise11TheLastOneShodTreadsForWalker0() {
        FootIsle x = isle("21;p100,p111,s933");
        x.step(2, 0);
        due("WALKER 0", x.print(0, cell(4, 3)), 9);
        due("WALKER 1", x.print(1, cell(4, 3)), 0);
        due("its own", x.print(2, cell(4, 3)), 0);
    }

    static void promise11OneShodBeforeTheLastTreadsForTheLast() {
        FootIsle x = isle("21;p100,s933,p111");
        x.step(1, 0);
        due("the last", x.print(2, cell(4, 3)), 9);
        due("WALKER 0", x.print(0, cell(4, 3)), 0);
        due("its own", x.print(1, cell(4, 3)), 0);
    }

    static void promise11OneShodAloneTreadsForItself() {
        FootIsle x = isle("21;s933");
        x.step(0, 0);
        due("its own", x.print(0, cell(4, 3)), 9);
    }

    static void promise11OneShodOfSixTreadsForWalker0() {
        FootIsle x = isle("21;p100,p110,p120,p130,p140,s433");
        x.step(5, 0);
        due("WALKER 0", x.print(0, cell(4, 3)), 4);
        due("its own", x.print(5, cell(4, 3)), 0);
    }

    static void promise11AStepIsOneThingToBeUndone() {
        FootIsle x = isle("21;k433");
        x.step(0, 1);
        due("count(7)", x.count(7), 1);
    }

    // ---- promise 12

    static void promise12HoursAre1To24() {
        FootIsle x = new FootIsle();
        due("hours(0)", x.hours(0), BAD);
        due("hours(25)", x.hours(25), BAD);
        due("hours(-1)", x.hours(-1), BAD);
        due("hours(least)", x.hours(LEAST), BAD);
        due("hours(most)", x.hours(MOST), BAD);
        due("HOUR", x.count(1), 0);
        due("hours(1)", x.hours(1), 0);
        due("HOUR", x.count(1), 1);
        due("hours(24)", x.hours(24), 0);
        due("HOUR", x.count(1), 25);
    }

    /** An isle of nobody at an hour; 9999 is reached by 417 calls. */
    private static FootIsle atHour(int hour) {
        FootIsle x = new FootIsle();
        for (int now = 0; now < hour; now += 24) {
            x.hours(Math.min(24, hour - now));
        }
        due("HOUR", x.count(1), hour);
        return x;
    }

    static void promise12HourIs9999AtMost() {
        FootIsle x = atHour(9998);
        due("hours(2)", x.hours(2), FULL);
        due("HOUR", x.count(1), 9998);
        due("hours(1)", x.hours(1), 0);
        due("HOUR", x.count(1), 9999);
        due("hours(1)", x.hours(1), FULL);
        due("hours(24)", x.hours(24), FULL);
        due("HOUR", x.count(1), 9999);
    }

    static void promise12TwentyFourHoursTo9999() {
        FootIsle x = atHour(9975);
        due("hours(24)", x.hours(24), 0);
        due("HOUR", x.count(1), 9999);
    }

    static void promise12TwentyFourHoursTo10000AreRefused() {
        FootIsle x = atHour(9976);
        due("hours(24)", x.hours(24), FULL);
        due("HOUR", x.count(1), 9976);
        due("hours(23)", x.hours(23), 0);
    }

    static void promise12BadStandsAheadOfFull() {
        FootIsle x = atHour(9999);
        due("hours(0)", x.hours(0), BAD);
        due("hours(25)", x.hours(25), BAD);
        due("hours(most)", x.hours(MOST), BAD);
        due("hours(1)", x.hours(1), FULL);
    }

    static void promise12WhatIsFullLeavesAll() {
        FootIsle x = atHour(9990);
        x.walker(0, 9, 0);
        x.step(0, 0);
        due("hours(10)", x.hours(10), FULL);
        due("print", x.print(0, 1), 9);
        due("count(7)", x.count(7), 1);
        due("undo()", x.undo(), 0);
        due("HOUR", x.count(1), 9990);
    }

    static void promise12WhatIsBadLeavesAll() {
        refused("hours(0)", Sand::busy, BAD, x -> x.hours(0));
        refused("hours(25)", Sand::busy, BAD, x -> x.hours(25));
    }

    static void promise12AtHour9999UndoneThereIsOneMore() {
        FootIsle x = atHour(9999);
        due("undo()", x.undo(), 7);
        due("hours(1)", x.hours(1), 0);
        due("HOUR", x.count(1), 9999);
    }

    static void promise12APrintIs0AtLeastOnDrySand() {
        FootIsle x = isle("41;p523,p400");
        x.step(0, 0); // 5 at 3 3
        due("hours(1)", x.hours(1), 9);
        due("1 deep", x.print(0, cell(3, 3)), 1);
        due("hours(1)", x.hours(1), 0);
        due("0 deep", x.print(0, cell(3, 3)), 0);
        due("hours(24)", x.hours(24), 0);
        due("0 deep still", x.print(0, cell(3, 3)), 0);
    }

    static void promise12APrintIs0AtLeastOnWetSand() {
        FootIsle x = isle("41;p222");
        x.step(0, 0); // 2 at 3 2
        x.hours(1);
        due("1 deep", x.print(0, cell(3, 2)), 1);
        x.hours(1);
        due("0 deep", x.print(0, cell(3, 2)), 0);
        x.hours(1);
        due("0 deep still", x.print(0, cell(3, 2)), 0);
    }

    static void promise12TheTideComesAtEachMultiple() {
        FootIsle x = isle("01;h900");
        x.isle(TIDE, 5);
        for (int hour = 1; hour <= 20; hour++) {
            walk(x, 0, hour % 2 == 1 ? "0" : "2");
            x.hours(1);
            int deep = x.print(0, hour % 2 == 1 ? 1 : 0);
            due("flooded at hour " + hour, deep == 0 ? 1 : 0, hour % 5 == 0 ? 1 : 0);
        }
    }

    static void promise12TheTideComesWithinManyHours() {
        FootIsle x = isle("01;h900");
        x.isle(TIDE, 12);
        walk(x, 0, "0202");
        x.hours(11);
        due("at hour 11", x.print(0, 1), 25);
        x.undo();
        x.hours(2);
        due("through hour 12", x.print(0, 1), 0);
    }

    static void promise12TheTideGoesByTheHourNotByTheCall() {
        FootIsle x = isle("01;h900");
        x.hours(4);
        x.step(0, 0);
        x.hours(1);
        due("at hour 5", x.print(0, 1), 17);
        x.hours(1);
        due("at hour 6", x.print(0, 1), 0);
    }

    static void promise12ATideToldAnewGoesByTheHour() {
        FootIsle x = isle("01;h900");
        x.hours(7);
        x.step(0, 0);
        x.isle(TIDE, 8);
        x.hours(1);
        due("at hour 8", x.print(0, 1), 0);
    }

    static void promise12HeldCellsAreThoseThen() {
        FootIsle x = isle("21;p322,p423");
        x.step(0, 0); // 3 at 3 2, wet
        x.step(1, 0); // 4 at 3 3, dry
        due("alike behind an hour", x.hours(1), 6);
        due("not alike behind one more", x.hours(1), 9);
    }

    static void promise12EachHourIsOneThingToBeUndone() {
        FootIsle x = isle("21;p933");
        x.step(0, 0);
        x.hours(3);
        due("count(7)", x.count(7), 4);
        for (int left = 3; left >= 1; left--) {
            due("undo()", x.undo(), left);
            due("HOUR", x.count(1), left - 1);
            due("print", x.print(0, cell(4, 3)), 9 - 2 * (left - 1));
        }
    }

    static void promise12Of24HoursTheLatest8AreKnown() {
        FootIsle x = isle("21;p933");
        x.hours(24);
        due("count(7)", x.count(7), 8);
        for (int left = 7; left >= 0; left--) {
            due("undo()", x.undo(), left);
        }
        due("undo()", x.undo(), NONE);
        due("HOUR", x.count(1), 16);
    }

    static void promise12TheDrawStays() {
        FootIsle x = isle("21;p933");
        x.hours(24);
        due("seed", x.seed(0), 1);
    }

    // ---- promise 13

    static void promise13HoursAre1To24() {
        FootIsle x = new FootIsle();
        due("drift(0)", x.drift(0), BAD);
        due("drift(25)", x.drift(25), BAD);
        due("drift(-1)", x.drift(-1), BAD);
        due("drift(least)", x.drift(LEAST), BAD);
        due("drift(most)", x.drift(MOST), BAD);
        due("HOUR", x.count(1), 0);
        due("drift(1)", x.drift(1), 0);
        due("HOUR", x.count(1), 1);
        due("drift(24)", x.drift(24), 0);
        due("HOUR", x.count(1), 25);
    }

    static void promise13OneDrawAnHour() {
        FootIsle x = new FootIsle();
        x.drift(1);
        due("of 1", x.seed(1), 1103527590);
        x.drift(24);
        due("24 times", x.seed(1), 675780521);
    }

    static void promise13HourIs9999AtMost() {
        FootIsle x = atHour(9998);
        due("drift(2)", x.drift(2), FULL);
        due("THE DRAW stays", x.seed(1), 1);
        due("HOUR", x.count(1), 9998);
        due("drift(1)", x.drift(1), 0);
        due("HOUR", x.count(1), 9999);
        due("drift(1)", x.drift(1), FULL);
        due("drift(24)", x.drift(24), FULL);
    }

    static void promise13TwentyFourHoursTo9999() {
        due("drift(24)", atHour(9975).drift(24), 0);
        due("drift(24)", atHour(9976).drift(24), FULL);
    }

    static void promise13BadStandsAheadOfFull() {
        FootIsle x = atHour(9999);
        due("drift(0)", x.drift(0), BAD);
        due("drift(25)", x.drift(25), BAD);
        due("drift(1)", x.drift(1), FULL);
    }

    static void promise13WhatIsRefusedLeavesAll() {
        refused("drift(0)", Sand::busy, BAD, x -> x.drift(0));
        refused("drift(25)", Sand::busy, BAD, x -> x.drift(25));
        FootIsle x = atHour(9990);
        x.walker(0, 9, 5);
        x.step(0, 0); // 9 at 6, the first cell of the draws from 1 on
        due("drift(10)", x.drift(10), FULL);
        due("print", x.print(0, 6), 9);
        due("count(7)", x.count(7), 1);
        due("THE DRAW", x.seed(1), 1);
        due("HOUR", x.count(1), 9990);
    }

    static void promise13CrabsRakeCell0() {
        FootIsle x = isle("01;p910,p910");
        x.step(0, 2);
        x.seed(0);
        due("drift(1)", x.drift(1), 1);
        due("print", x.print(0, 0), 0);
        due("THE DRAW", x.seed(1), 12345);
    }

    static void promise13CrabsRakeCell63() {
        FootIsle x = isle("01;p967,p967");
        x.step(1, 0);
        x.seed(10);
        due("drift(1)", x.drift(1), 1);
        due("print", x.print(1, 63), 0);
        due("THE DRAW", x.seed(1), 297746555);
    }

    static void promise13TheDrawIsTheLowest31Bits() {
        FootIsle x = new FootIsle();
        x.seed(MOST);
        x.drift(1);
        due("of the greatest", x.seed(230538014), 1043980748);
        x.drift(1);
        due("to the greatest", x.seed(2088216195), MOST);
        x.drift(1);
        due("to 0", x.seed(0), 0);
        x.drift(1);
        due("of 0", x.seed(0), 12345);
    }

    static void promise13TheCellOfAGreatDraw() {
        FootIsle x = isle("01;p907");
        x.step(0, 0); // 9 at 1 7, cell 57
        x.seed(MOST);
        due("drift(1)", x.drift(1), 1);
    }

    static void promise13PrintsOfEachWalkerCount() {
        FootIsle x = isle("01;p950,p950,p950,p950,p950,p950");
        for (int w = 0; w < 6; w++) {
            x.step(w, 0); // 9 at cell 6
        }
        due("drift(1)", x.drift(1), 6);
        due("CELLS with PRINTS", x.count(9), 0);
    }

    static void promise13PrintsGoneByTheHourDoNotCount() {
        FootIsle x = isle("01;p150,p250");
        x.step(0, 0); // 1 at cell 6, wet: gone at the hour's end
        x.step(1, 0); // 2 at cell 6
        due("drift(1)", x.drift(1), 1);
    }

    static void promise13PrintsGoneByTheTideDoNotCount() {
        FootIsle x = isle("01;p950");
        x.step(0, 0); // 9 at cell 6
        x.hours(5);
        due("at hour 6", x.drift(1), 0);
    }

    static void promise13OfManyHoursAllCount() {
        FootIsle x = isle("01;k957");
        x.isle(FLOOD, 0);
        walk(x, 0, "02"); // 36 at 5 7 and 6 7, cells 61 and 62
        due("62 by the second draw, 61 by the eleventh", x.drift(10), 1);
        due("one more", x.drift(1), 1);
        due("none more", x.drift(13), 0);
    }

    static void promise13EachHourIsOneThingToBeUndone() {
        FootIsle x = isle("01;p950");
        x.step(0, 0);
        x.drift(3);
        due("count(7)", x.count(7), 4);
        due("undo()", x.undo(), 3);
        due("HOUR", x.count(1), 2);
        due("undo()", x.undo(), 2);
        due("raked still", x.print(0, 6), 0);
        due("undo()", x.undo(), 1);
        due("not raked", x.print(0, 6), 9);
        due("THE DRAW", x.seed(1), 1);
        x.drift(24);
        due("8 at most", x.count(7), 8);
    }

    // ---- promise 14

    static void promise14CellIs0To63() {
        FootIsle x = isle("21;p110,p267");
        x.step(0, 2);
        x.step(1, 0);
        due("rake(-1)", x.rake(-1), BAD);
        due("rake(64)", x.rake(64), BAD);
        due("rake(least)", x.rake(LEAST), BAD);
        due("rake(most)", x.rake(MOST), BAD);
        due("rake(0)", x.rake(0), 1);
        due("rake(63)", x.rake(63), 1);
        due("print(0, 0)", x.print(0, 0), 0);
        due("print(1, 63)", x.print(1, 63), 0);
    }

    static void promise14WhatIsRefusedLeavesAll() {
        refused("rake(-1)", Sand::busy, BAD, x -> x.rake(-1));
        refused("rake(64)", Sand::busy, BAD, x -> x.rake(64));
    }

    static void promise14PrintsAre0To6() {
        FootIsle x = isle("21;p133,p133,p133,p133,p133,p133");
        due("none", x.rake(cell(4, 3)), 0);
        for (int w = 0; w < 6; w++) {
            x.step(w, 0);
        }
        due("six", x.rake(cell(4, 3)), 6);
        due("none then", x.rake(cell(4, 3)), 0);
    }

    static void promise14ARakingOfNoPrintsMayBeUndone() {
        FootIsle x = isle("21;p133");
        due("rake", x.rake(0), 0);
        due("count(7)", x.count(7), 1);
        due("undo()", x.undo(), 0);
    }

    static void promise14NoOtherCellIsRaked() {
        FootIsle x = isle("01;k933,k933");
        walk(x, 0, "0123");
        walk(x, 1, "0123");
        due("rake", x.rake(cell(4, 4)), 2);
        due("the others", x.count(9), 3);
    }

    // ---- promise 15

    static void promise15NoneIsKnownAtFirst() {
        due("undo()", new FootIsle().undo(), NONE);
        due("undo() behind an ISLE", isle("21;p133").undo(), NONE);
    }

    static void promise15NoneLeavesAll() {
        FootIsle made = isle("21;p133");
        due("undo()", made.undo(), NONE);
        sameAll("NONE", made, isle("21;p133"));
    }

    static void promise15Eight() {
        FootIsle x = isle("21;p100");
        walk(x, 0, "00000001"); // eight
        due("count(7)", x.count(7), 8);
        for (int left = 7; left >= 0; left--) {
            due("undo()", x.undo(), left);
            due("STEPS", x.of(0, 3), left);
        }
        due("undo()", x.undo(), NONE);
        due("CELL", x.of(0, 2), 0);
    }

    static void promise15OfNineTheOldestIsLost() {
        FootIsle x = isle("21;p100");
        walk(x, 0, "000000011"); // nine
        due("count(7)", x.count(7), 8);
        for (int left = 7; left >= 0; left--) {
            due("undo()", x.undo(), left);
            due("STEPS", x.of(0, 3), left + 1);
        }
        due("undo()", x.undo(), NONE);
        due("CELL", x.of(0, 2), 1);
        due("the first one's print", x.print(0, 1), 1);
        due("no other", x.count(9), 1);
    }

    static void promise15OfManyTheLatestEightAreKnown() {
        FootIsle x = isle("21;p100");
        for (int i = 0; i < 30; i++) {
            x.step(0, i % 2 == 0 ? 0 : 2);
        }
        for (int left = 7; left >= 0; left--) {
            due("undo()", x.undo(), left);
            due("STEPS", x.of(0, 3), 22 + left);
            due("print", x.print(0, 1), (22 + left + 1) / 2);
        }
        due("undo()", x.undo(), NONE);
    }

    static void promise15WhatIsUndoneMakesRoom() {
        FootIsle x = isle("21;p100");
        for (int i = 0; i < 11; i++) {
            x.step(0, i % 2 == 0 ? 0 : 2);
        }
        for (int i = 0; i < 5; i++) {
            x.undo();
        }
        due("count(7)", x.count(7), 3);
        for (int i = 0; i < 4; i++) {
            x.step(0, i % 2 == 0 ? 0 : 2);
        }
        due("count(7)", x.count(7), 7);
        for (int left = 6; left >= 0; left--) {
            due("undo()", x.undo(), left);
            due("STEPS", x.of(0, 3), 3 + left);
        }
        due("undo()", x.undo(), NONE);
    }

    static void promise15AnUndoingIsNotUndone() {
        FootIsle x = isle("21;p100");
        x.step(0, 0);
        due("undo()", x.undo(), 0);
        due("undo()", x.undo(), NONE);
        due("CELL", x.of(0, 2), 0);
    }

    static void promise15PrintsOfAllAreAsAhead() {
        FootIsle x = isle("21;k933,k943");
        x.step(0, 0);
        x.step(1, 0);
        x.hours(1);
        due("undo()", x.undo(), 2);
        due("one's", x.print(0, cell(3, 3)), 18);
        due("the other's", x.print(1, cell(5, 3)), 18);
        x.rake(cell(4, 3));
        due("undo()", x.undo(), 2);
        due("one's", x.print(0, cell(4, 3)), 18);
        due("the other's", x.print(1, cell(4, 3)), 18);
    }

    static void promise15WhereAllAre() {
        FootIsle x = isle("21;p133,p133,p133,p133,p133,p133");
        for (int w = 0; w < 6; w++) {
            x.step(w, 0);
        }
        for (int w = 5; w >= 0; w--) {
            x.undo();
            for (int other = 0; other < 6; other++) {
                due("CELL of " + other, x.of(other, 2), cell(other < w ? 4 : 3, 3));
                due("STEPS of " + other, x.of(other, 3), other < w ? 1 : 0);
            }
        }
    }

    static void promise15AStepUndoneDoesNotCountForAHopper() {
        FootIsle x = isle("21;o300");
        x.step(0, 0);
        x.undo();
        x.step(0, 1);
        due("its first again", x.count(9), 0);
        x.step(0, 1);
        due("its second", x.print(0, 16), 4);
    }

    static void promise15WhatIsToldSinceStays() {
        FootIsle x = isle("21;p133");
        x.step(0, 0);
        x.isle(WET, 8);
        x.isle(WIND, 9);
        x.isle(REACH, 3);
        x.isle(TIDE, 12);
        x.isle(FLOOD, 0);
        x.type('2');
        x.sheet(0, 0, 7);
        x.image();
        due("undo()", x.undo(), 0);
        due("WET", x.count(2), 8);
        due("WIND", x.count(3), 9);
        due("REACH", x.count(4), 3);
        due("TIDE", x.count(5), 12);
        due("FLOOD", x.count(6), 0);
        due("THE TAPE", x.type('1'), 2);
        due("a SHEET", x.drop(0), 7);
        due("the IMAGE", x.restore(), 1);
        due("of the IMAGE", x.of(0, 3), 1);
    }

    static void promise15TheDrawIsAsAheadWhateverWasToldSince() {
        FootIsle x = isle("21;p133");
        x.seed(7);
        x.step(0, 0);
        x.seed(9);
        x.hours(1);
        x.seed(11);
        due("undo()", x.undo(), 1);
        due("ahead of the HOUR", x.seed(13), 9);
        due("undo()", x.undo(), 0);
        due("ahead of the STEP", x.seed(15), 7);
    }

    static void promise15ANewWalkerLeavesNothing() {
        FootIsle x = isle("21;p133");
        walk(x, 0, "0202020202");
        x.walker(0, 1, 0);
        due("undo()", x.undo(), NONE);
        x.rake(0);
        due("one since", x.undo(), 0);
        due("no more", x.undo(), NONE);
    }

    static void promise15AnIsleLeavesNothing() {
        FootIsle x = isle("21;p133");
        walk(x, 0, "0202020202");
        settleAs(x, "21;p133");
        due("undo()", x.undo(), NONE);
        x.rake(0);
        due("one since", x.undo(), 0);
        due("no more", x.undo(), NONE);
    }

    static void promise15WhatIsRefusedIsNotUndone() {
        FootIsle x = isle("21;p100");
        x.step(0, 0);
        x.step(0, 3);
        x.step(0, 9);
        x.hours(0);
        x.drift(25);
        x.rake(64);
        x.walker(9, 1, 0);
        settleAs(x, "x");
        due("undo()", x.undo(), 0);
        due("CELL", x.of(0, 2), 0);
    }

    // ---- promise 16

    static void promise16TheDrawIsOf31Bits() {
        FootIsle x = new FootIsle();
        due("seed(-1)", x.seed(-1), BAD);
        due("seed(least)", x.seed(LEAST), BAD);
        due("seed(0)", x.seed(0), 1);
        due("seed(most)", x.seed(MOST), 0);
        due("seed(1)", x.seed(1), MOST);
    }

    static void promise16WhatIsRefusedLeavesAll() {
        refused("seed(-1)", Sand::busy, BAD, x -> x.seed(-1));
        refused("seed(least)", Sand::busy, BAD, x -> x.seed(LEAST));
    }

    static void promise16ASeedIsNothingToBeUndone() {
        FootIsle x = isle("21;p133");
        x.seed(5);
        due("count(7)", x.count(7), 0);
        due("undo()", x.undo(), NONE);
    }
}
