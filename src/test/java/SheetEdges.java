/** Edges of promises 27 to 33: what rows of sheets tell, and sheets themselves. */
final class SheetEdges extends Sand {
    private SheetEdges() {
    }

    private static void put(FootIsle x, int sheet, int lane, long... items) {
        for (int i = 0; i < items.length; i++) {
            due("item", x.item(sheet, lane, i, items[i]), 1);
        }
    }

    /** Nine cells held, and a sheet of ints with items. */
    private static FootIsle nineWith(long... items) {
        FootIsle x = nine();
        x.sheet(0, 2, items.length);
        put(x, 0, 2, items);
        return x;
    }

    /** Of nineWith's walker: what raked answers for each item of a sheet: 63 for 9, 1 for 0, 0 for another. */
    private static void expectItems(FootIsle x, int sheet, int lane, int... raked) {
        for (int i = 0; i < raked.length; i++) {
            due("item " + i + " of sheet " + sheet, x.raked(sheet, lane, i, 0), raked[i]);
        }
        due("no more items", x.raked(sheet, lane, raked.length, 0), INDEX);
    }

    // ---- promise 27

    static void promise27SheetIs0To3() {
        FootIsle x = nine();
        for (int s = 0; s < 4; s++) {
            x.sheet(s, 2, 1);
        }
        due("sheet -1", x.raked(-1, 2, 0, 0), BAD);
        due("sheet 4", x.raked(4, 2, 0, 0), BAD);
        due("sheet least", x.raked(LEAST, 2, 0, 0), BAD);
        due("sheet most", x.raked(MOST, 2, 0, 0), BAD);
        due("sheet 0", x.raked(0, 2, 0, 0), 1);
        due("sheet 3", x.raked(3, 2, 0, 0), 1);
    }

    static void promise27LaneIs0To3() {
        FootIsle x = nine();
        x.sheet(0, 0, 1);
        x.sheet(3, 3, 1);
        due("lane -1", x.raked(0, -1, 0, 0), BAD);
        due("lane 4", x.raked(3, 4, 0, 0), BAD);
        due("lane least", x.raked(0, LEAST, 0, 0), BAD);
        due("lane most", x.raked(0, MOST, 0, 0), BAD);
        due("lane 0", x.raked(0, 0, 0, 0), 1);
        due("lane 3", x.raked(3, 3, 0, 0), 1);
    }

    static void promise27WhatIs0Or1() {
        FootIsle x = nineWith(0);
        due("what -1", x.raked(0, 2, 0, -1), BAD);
        due("what 2", x.raked(0, 2, 0, 2), BAD);
        due("what least", x.raked(0, 2, 0, LEAST), BAD);
        due("what most", x.raked(0, 2, 0, MOST), BAD);
        due("what 0", x.raked(0, 2, 0, 0), 1);
        due("what 1", x.raked(0, 2, 0, 1), cell(3, 3));
    }

    static void promise27FromItemIOn() {
        FootIsle x = nineWith(5, 9, 0);
        due("item -1", x.raked(0, 2, -1, 0), INDEX);
        due("item 0", x.raked(0, 2, 0, 0), 0);
        due("item 2", x.raked(0, 2, 2, 0), 1);
        due("item 3", x.raked(0, 2, 3, 0), INDEX);
        due("item least", x.raked(0, 2, LEAST, 0), INDEX);
        due("item most", x.raked(0, 2, MOST, 0), INDEX);
    }

    static void promise27AsManyItemsAsWalkers() {
        FootIsle x = isle("21;p100,p110,p120,p130,p140,p150");
        x.sheet(0, 2, 6);
        x.sheet(1, 2, 5);
        x.sheet(2, 2, 24);
        due("six of six", x.raked(0, 2, 0, 0), 64);
        due("six of six, from 1 on", x.raked(0, 2, 1, 0), INDEX);
        due("six of five", x.raked(1, 2, 0, 0), INDEX);
        due("the last six of 24", x.raked(2, 2, 18, 0), 64);
        due("from 19 on", x.raked(2, 2, 19, 0), INDEX);
        x.item(0, 2, 5, 1);
        due("the sixth item counts", x.raked(0, 2, 0, 0), 0);
    }

    static void promise27ItemsBehindDoNotMatter() {
        FootIsle x = nineWith(-1, 9, 99);
        due("of one walker one item", x.raked(0, 2, 1, 0), 63);
    }

    static void promise27ItemsAre0To64() {
        FootIsle x = nineWith(-1, 65, 0, 64, LEAST, MOST);
        int[] want = {NOT, NOT, 1, 0, NOT, NOT};
        for (int i = 0; i < 6; i++) {
            due("item " + i, x.raked(0, 2, i, 0), want[i]);
        }
        due("item 0, the least", x.raked(0, 2, 0, 1), NOT);
        due("item 3, the least", x.raked(0, 2, 3, 1), NONE);
    }

    static void promise27EachItemIsLookedAt() {
        FootIsle x = isle("21;p100,p111");
        x.sheet(0, 3, 2);
        x.item(0, 3, 0, 64); // fits no cell
        x.item(0, 3, 1, 65);
        due("the second", x.raked(0, 3, 0, 0), NOT);
        x.item(0, 3, 1, (1L << 32) + 1);
        due("the second, a long", x.raked(0, 3, 0, 0), NOT);
        x.item(0, 3, 1, 64);
        due("as told", x.raked(0, 3, 0, 0), 0);
    }

    static void promise27LandOfAll64() {
        FootIsle x = isle("03;p923");
        walk(x, 0, "0012"); // all 64 cells are held
        x.sheet(0, 0, 2);
        x.item(0, 0, 0, 64);
        x.item(0, 0, 1, 63);
        due("64: one of the cells without a print", x.raked(0, 0, 0, 0), 60);
        due("the least", x.raked(0, 0, 0, 1), 0);
        due("63: one of the four", x.raked(0, 0, 1, 0), 4);
        due("the least", x.raked(0, 0, 1, 1), cell(3, 3));
    }

    static void promise27Cell0AndCell63CanHaveBeenRaked() {
        FootIsle x = isle("20;p967,k901");
        x.step(0, 0); // 63
        x.step(1, 3); // 0 0 and 0 1
        x.sheet(0, 2, 4);
        put(x, 0, 2, 0, 2, 1, 1);
        due("63", x.raked(0, 2, 0, 1), 63);
        due("one", x.raked(0, 2, 0, 0), 1);
        due("0 or 8", x.raked(0, 2, 2, 0), 2);
        due("the less", x.raked(0, 2, 2, 1), 0);
    }

    static void promise27LandIsThatOfNow() {
        FootIsle x = alikeNow();
        x.sheet(0, 2, 6);
        put(x, 0, 2, 3, 3, 4, 3, 3, 0);
        due("one of the cells without prints", x.raked(0, 2, 0, 0), 61);
        due("WALKER 2's alone", x.raked(0, 2, 3, 0), 1);
        due("it", x.raked(0, 2, 3, 1), cell(0, 7));
    }

    static void promise27None() {
        FootIsle x = nineWith(1);
        due("how many", x.raked(0, 2, 0, 0), 0);
        due("the least", x.raked(0, 2, 0, 1), NONE);
    }

    static void promise27OfNobodyAllCells() {
        FootIsle x = new FootIsle();
        x.sheet(0, 2, 1);
        due("how many", x.raked(0, 2, 0, 0), 64);
        due("the least", x.raked(0, 2, 0, 1), 0);
    }

    static void promise27TheOrderOfRefusals() {
        FootIsle x = nineWith(65);
        due("BAD ahead of NULL", x.raked(1, 2, 9, 2), BAD);
        due("BAD ahead of NULL, a lane", x.raked(1, 4, 9, 0), BAD);
        due("NULL ahead of INDEX", x.raked(1, 2, 9, 0), NULL);
        due("BAD ahead of CAST", x.raked(0, 1, 9, 2), BAD);
        due("CAST ahead of INDEX", x.raked(0, 1, 9, 0), CAST);
        due("CAST ahead of NOT", x.raked(0, 1, 0, 0), CAST);
        due("INDEX", x.raked(0, 2, 9, 0), INDEX);
        due("NOT", x.raked(0, 2, 0, 0), NOT);
        FootIsle y = isle("21;p100,p111");
        y.sheet(0, 2, 1);
        y.item(0, 2, 0, 65);
        due("INDEX ahead of NOT", y.raked(0, 2, 0, 0), INDEX);
    }

    static void promise27NothingIsChanged() {
        FootIsle x = busy();
        x.raked(0, 2, 0, 0);
        x.raked(0, 2, 1, 1);
        x.raked(0, 2, 3, 1);
        x.raked(3, 2, 0, 0);
        sameAll("raked", x, busy());
    }

    // ---- promise 28

    static void promise28SheetIs0To3() {
        FootIsle x = nine();
        for (int s = 0; s < 4; s++) {
            x.sheet(s, 2, 2);
        }
        due("sheet -1", x.shoes(-1, 2, 0, 1), BAD);
        due("sheet 4", x.shoes(4, 2, 0, 1), BAD);
        due("sheet least", x.shoes(LEAST, 2, 0, 1), BAD);
        due("sheet most", x.shoes(MOST, 2, 0, 1), BAD);
        due("sheet 0", x.shoes(0, 2, 0, 1), 1);
        due("sheet 3", x.shoes(3, 2, 0, 1), 1);
    }

    static void promise28LaneIs0To3() {
        FootIsle x = nine();
        x.sheet(0, 0, 2);
        x.sheet(3, 3, 2);
        due("lane -1", x.shoes(0, -1, 0, 1), BAD);
        due("lane 4", x.shoes(3, 4, 0, 1), BAD);
        due("lane least", x.shoes(0, LEAST, 0, 1), BAD);
        due("lane most", x.shoes(0, MOST, 0, 1), BAD);
        due("lane 0", x.shoes(0, 0, 0, 1), 1);
        due("lane 3", x.shoes(3, 3, 0, 1), 1);
    }

    static void promise28PrintsAre1To8() {
        FootIsle x = nine();
        x.sheet(0, 2, 24);
        due("n 0", x.shoes(0, 2, 0, 0), BAD);
        due("n 9", x.shoes(0, 2, 0, 9), BAD);
        due("n -1", x.shoes(0, 2, 0, -1), BAD);
        due("n least", x.shoes(0, 2, 0, LEAST), BAD);
        due("n most", x.shoes(0, 2, 0, MOST), BAD);
        due("n 1", x.shoes(0, 2, 0, 1), 1);
        due("n 8", x.shoes(0, 2, 0, 8), 1);
    }

    static void promise28TwoItemsEach() {
        FootIsle x = nine();
        x.sheet(0, 2, 16);
        x.sheet(1, 2, 15);
        due("8 of 16", x.shoes(0, 2, 0, 8), 1);
        due("8 of 16, from 1 on", x.shoes(0, 2, 1, 8), INDEX);
        due("8 of 15", x.shoes(1, 2, 0, 8), INDEX);
        due("7 of 15, from 1 on", x.shoes(1, 2, 1, 7), 1);
        due("1, from 14 on", x.shoes(0, 2, 14, 1), 1);
        due("1, from 15 on", x.shoes(0, 2, 15, 1), INDEX);
        due("1, from 16 on", x.shoes(0, 2, 16, 1), INDEX);
        due("1, from -1 on", x.shoes(0, 2, -1, 1), INDEX);
        due("1, from least on", x.shoes(0, 2, LEAST, 1), INDEX);
        due("1, from most on", x.shoes(0, 2, MOST, 1), INDEX);
    }

    static void promise28CellsAre0To63() {
        FootIsle x = nineWith(-1, 0, 64, 0, 0, 0, 63, 0, MOST, 0);
        int[] want = {NOT, NOT, 1, 1, NOT};
        for (int k = 0; k < 5; k++) {
            due("cell of item " + 2 * k, x.shoes(0, 2, 2 * k, 1), want[k]);
        }
    }

    static void promise28DepthsAre0To99() {
        FootIsle x = isle("20;h930");
        for (int i = 0; i < 6; i++) {
            walk(x, 0, "13"); // 99 at 3 1
        }
        x.sheet(0, 2, 10);
        put(x, 0, 2, cell(3, 1), -1, cell(3, 1), 100, cell(3, 1), 99, cell(3, 1), 98, cell(3, 2), 0);
        int[] want = {NOT, NOT, 1, 0, 1};
        for (int k = 0; k < 5; k++) {
            due("depth of item " + (2 * k + 1), x.shoes(0, 2, 2 * k, 1), want[k]);
        }
    }

    static void promise28AnItemOfManyBitsIsNotCut() {
        FootIsle x = nine();
        x.sheet(0, 3, 2);
        x.item(0, 3, 0, 1L << 32);
        due("a cell", x.shoes(0, 3, 0, 1), NOT);
        put(x, 0, 3, 0, 1L << 32);
        due("a depth", x.shoes(0, 3, 0, 1), NOT);
    }

    static void promise28ASetOfSix() {
        FootIsle x = isle("21;p100,p110,p120,p130,p140,p950");
        x.step(5, 0); // 9 at cell 6
        x.sheet(0, 2, 4);
        put(x, 0, 2, 6, 9, 6, 0);
        due("the sixth alone", x.shoes(0, 2, 0, 1), 32);
        due("all but the sixth", x.shoes(0, 2, 2, 1), 31);
        due("no one has both", x.shoes(0, 2, 0, 2), 0);
        put(x, 0, 2, 7, 0, 8, 0);
        due("all six", x.shoes(0, 2, 0, 2), 63);
    }

    static void promise28OneCellToldTwice() {
        FootIsle x = nineWith(cell(3, 3), 3, cell(3, 3), 3, cell(3, 3), 2);
        due("alike", x.shoes(0, 2, 0, 2), 1);
        due("unlike", x.shoes(0, 2, 0, 3), 0);
    }

    static void promise28OfNobodyAnEmptySet() {
        FootIsle x = new FootIsle();
        x.sheet(0, 2, 2);
        due("a set", x.shoes(0, 2, 0, 1), 0);
        x.item(0, 2, 0, 64);
        due("not as told", x.shoes(0, 2, 0, 1), NOT);
    }

    static void promise28TheLastOfEightIsLookedAt() {
        FootIsle x = nine();
        x.sheet(0, 2, 18);
        x.item(0, 2, 14, 64);
        due("the 8th", x.shoes(0, 2, 0, 8), NOT);
        due("seven", x.shoes(0, 2, 0, 7), 1);
        x.item(0, 2, 14, 0);
        x.item(0, 2, 15, 100);
        due("the 8th", x.shoes(0, 2, 0, 8), NOT);
        x.item(0, 2, 15, 1);
        due("the 8th does not fit", x.shoes(0, 2, 0, 8), 0);
        due("seven fit", x.shoes(0, 2, 0, 7), 1);
    }

    static void promise28TheOrderOfRefusals() {
        FootIsle x = nineWith(64, 0, 64);
        due("BAD ahead of NULL", x.shoes(1, 2, 9, 0), BAD);
        due("NULL ahead of INDEX", x.shoes(1, 2, 9, 1), NULL);
        due("BAD ahead of CAST", x.shoes(0, 1, 9, 9), BAD);
        due("CAST ahead of INDEX", x.shoes(0, 1, 9, 1), CAST);
        due("CAST ahead of NOT", x.shoes(0, 1, 0, 1), CAST);
        due("INDEX ahead of NOT", x.shoes(0, 2, 0, 2), INDEX);
        due("INDEX ahead of NOT", x.shoes(0, 2, 2, 1), INDEX);
        due("NOT", x.shoes(0, 2, 0, 1), NOT);
    }

    static void promise28NothingIsChanged() {
        FootIsle x = busy();
        x.shoes(0, 2, 0, 1);
        x.shoes(0, 2, 2, 1);
        x.shoes(3, 2, 0, 1);
        sameAll("shoes", x, busy());
    }

    // ---- promise 29

    static void promise29WalkerIsOneThatIsThere() {
        FootIsle x = nineWith(5);
        due("walker -1", x.film(-1, 1, 0, 2, 0), BAD);
        due("walker 1", x.film(1, 1, 0, 2, 0), BAD);
        due("walker least", x.film(LEAST, 1, 0, 2, 0), BAD);
        due("walker most", x.film(MOST, 1, 0, 2, 0), BAD);
        due("walker 0", x.film(0, 1, 0, 2, 0), 1);
    }

    static void promise29HoursAre1To24() {
        FootIsle x = nine();
        x.sheet(0, 2, 24);
        due("n 0", x.film(0, 0, 0, 2, 0), BAD);
        due("n 25", x.film(0, 25, 0, 2, 0), BAD);
        due("n -1", x.film(0, -1, 0, 2, 0), BAD);
        due("n least", x.film(0, LEAST, 0, 2, 0), BAD);
        due("n most", x.film(0, MOST, 0, 2, 0), BAD);
        due("n 1", x.film(0, 1, 0, 2, 0), 1);
        due("n 24", x.film(0, 24, 0, 2, 0), 24);
    }

    static void promise29SheetAndLaneAre0To3() {
        FootIsle x = nine();
        x.sheet(0, 0, 1);
        x.sheet(3, 3, 1);
        due("sheet -1", x.film(0, 1, -1, 0, 0), BAD);
        due("sheet 4", x.film(0, 1, 4, 0, 0), BAD);
        due("sheet least", x.film(0, 1, LEAST, 0, 0), BAD);
        due("sheet most", x.film(0, 1, MOST, 0, 0), BAD);
        due("lane -1", x.film(0, 1, 0, -1, 0), BAD);
        due("lane 4", x.film(0, 1, 3, 4, 0), BAD);
        due("lane least", x.film(0, 1, 0, LEAST, 0), BAD);
        due("lane most", x.film(0, 1, 0, MOST, 0), BAD);
        due("sheet 0, lane 0", x.film(0, 1, 0, 0, 0), 1);
        due("sheet 3, lane 3", x.film(0, 1, 3, 3, 0), 1);
    }

    static void promise29FromItemIOn() {
        FootIsle x = nineWith(5, 5, 5, 5);
        due("4 from 0 on", x.film(0, 4, 0, 2, 0), 4);
        due("5 from 0 on", x.film(0, 5, 0, 2, 0), INDEX);
        due("4 from 1 on", x.film(0, 4, 0, 2, 1), INDEX);
        due("1 from 3 on", x.film(0, 1, 0, 2, 3), 1);
        due("1 from 4 on", x.film(0, 1, 0, 2, 4), INDEX);
        due("1 from -1 on", x.film(0, 1, 0, 2, -1), INDEX);
        due("2 from -1 on", x.film(0, 2, 0, 2, -1), INDEX);
        due("1 from least on", x.film(0, 1, 0, 2, LEAST), INDEX);
        due("24 from most on", x.film(0, 24, 0, 2, MOST), INDEX);
    }

    static void promise29NoOtherItemIsChanged() {
        FootIsle x = nineWith(5, 5, 5, 5);
        due("film", x.film(0, 2, 0, 2, 1), 2); // 9 behind one hour, 0 behind two
        expectItems(x, 0, 2, 0, 63, 1, 0);
    }

    static void promise29FromOneHourOn() {
        FootIsle x = isle("11;p223,p100");
        x.step(0, 0); // 2 at 3 3, dry: 9 behind 1, 0 behind 2
        x.sheet(0, 2, 2);
        x.film(0, 2, 0, 2, 0);
        settleAs(x, "11;p923");
        x.step(0, 0);
        expectItems(x, 0, 2, 63, 1);
    }

    static void promise29The24thHour() {
        for (int deep = 24; deep <= 25; deep++) {
            FootIsle x = isle("01;p523");
            x.isle(WET, 8);
            x.isle(FLOOD, 0);
            walk(x, 0, "02020202020"); // 30 at 3 3, 25 at 2 3
            x.rake(cell(2, 3));
            x.hours(30 - deep);
            x.sheet(0, 2, 24);
            due("film", x.film(0, 24, 0, 2, 0), 24);
            due("behind 23", x.raked(0, 2, 22, 0), 63);
            due("behind 24", x.raked(0, 2, 23, 0), deep == 24 ? 1 : 63);
        }
    }

    static void promise29LandOf64FitsEachLane() {
        for (int lane = 0; lane < 4; lane++) {
            FootIsle x = isle("03;p923");
            walk(x, 0, "0012"); // all 64 cells are held
            x.sheet(0, lane, 24);
            due("film", x.film(0, 24, 0, lane, 0), 24);
            due("the first", x.raked(0, lane, 0, 0), 60);
            due("the last", x.raked(0, lane, 23, 0), 60);
        }
    }

    static void promise29TheOrderOfRefusals() {
        FootIsle x = nineWith(5);
        due("BAD ahead of NULL, a walker", x.film(1, 1, 1, 2, 9), BAD);
        due("BAD ahead of NULL, hours", x.film(0, 25, 1, 2, 9), BAD);
        due("BAD ahead of CAST", x.film(0, 0, 0, 1, 9), BAD);
        due("NULL ahead of INDEX", x.film(0, 1, 1, 2, 9), NULL);
        due("CAST ahead of INDEX", x.film(0, 1, 0, 1, 9), CAST);
        due("INDEX", x.film(0, 1, 0, 2, 9), INDEX);
    }

    static void promise29WhatIsRefusedLeavesAll() {
        refused("BAD", Sand::busy, BAD, x -> x.film(0, 25, 0, 2, 0));
        refused("NULL", Sand::busy, NULL, x -> x.film(0, 2, 3, 2, 0));
        refused("CAST", Sand::busy, CAST, x -> x.film(0, 2, 0, 1, 0));
        refused("INDEX", Sand::busy, INDEX, x -> x.film(0, 5, 0, 2, 0));
        refused("INDEX", Sand::busy, INDEX, x -> x.film(0, 2, 0, 2, 3));
        refused("INDEX", Sand::busy, INDEX, x -> x.film(0, 2, 0, 2, -1));
    }

    // ---- promise 30

    static void promise30SheetIs0To3() {
        FootIsle x = new FootIsle();
        due("sheet -1", x.sheet(-1, 0, 1), BAD);
        due("sheet 4", x.sheet(4, 0, 1), BAD);
        due("sheet least", x.sheet(LEAST, 0, 1), BAD);
        due("sheet most", x.sheet(MOST, 0, 1), BAD);
        due("sheet 0", x.sheet(0, 0, 1), 1);
        due("sheet 3", x.sheet(3, 0, 1), 1);
    }

    static void promise30LaneIs0To3() {
        FootIsle x = new FootIsle();
        due("lane -1", x.sheet(0, -1, 1), BAD);
        due("lane 4", x.sheet(0, 4, 1), BAD);
        due("lane least", x.sheet(0, LEAST, 1), BAD);
        due("lane most", x.sheet(0, MOST, 1), BAD);
        for (int lane = 0; lane < 4; lane++) {
            due("lane " + lane, x.sheet(0, lane, 1), 1);
            for (int other = 0; other < 4; other++) {
                due("taken as lane " + other, x.item(0, other, 0, 1), other == lane ? 1 : CAST);
            }
        }
    }

    static void promise30ItemsAre0To24() {
        FootIsle x = new FootIsle();
        due("n 25", x.sheet(0, 0, 25), BAD);
        due("n most", x.sheet(0, 0, MOST), BAD);
        due("n -1", x.sheet(0, 0, -1), SIZE);
        due("n least", x.sheet(0, 0, LEAST), SIZE);
        due("nothing yet", x.drop(0), NULL);
        due("n 0", x.sheet(0, 0, 0), 0);
        due("item 0 of none", x.item(0, 0, 0, 1), INDEX);
        due("n 24", x.sheet(0, 0, 24), 24);
        due("item 23", x.item(0, 0, 23, 1), 1);
        due("item 24", x.item(0, 0, 24, 1), INDEX);
    }

    static void promise30BadStandsAheadOfSize() {
        FootIsle x = new FootIsle();
        due("sheet 4, n -1", x.sheet(4, 0, -1), BAD);
        due("lane 4, n -1", x.sheet(0, 4, -1), BAD);
        due("n -1", x.sheet(0, 0, -1), SIZE);
    }

    static void promise30ANewRowIsOfZeros() {
        FootIsle x = nineWith(9, 9, 9);
        due("sheet", x.sheet(0, 2, 3), 3);
        expectItems(x, 0, 2, 1, 1, 1);
        due("a longer one", x.sheet(0, 2, 4), 4);
        expectItems(x, 0, 2, 1, 1, 1, 1);
    }

    static void promise30ANewRowBehindNothingIsOfZeros() {
        FootIsle x = nineWith(9, 9, 9);
        x.drop(0);
        x.sheet(0, 2, 3);
        expectItems(x, 0, 2, 1, 1, 1);
    }

    static void promise30NoOtherSheetIsChanged() {
        FootIsle x = nineWith(9, 5);
        x.sheet(1, 2, 2);
        x.sheet(2, 2, 24);
        x.sheet(3, 3, 0);
        expectItems(x, 0, 2, 63, 0);
    }

    static void promise30WhatIsRefusedLeavesAll() {
        refused("SIZE", Sand::busy, SIZE, x -> x.sheet(0, 2, -1));
        refused("n 25", Sand::busy, BAD, x -> x.sheet(0, 2, 25));
        refused("lane 4", Sand::busy, BAD, x -> x.sheet(0, 4, 1));
        refused("lane -1", Sand::busy, BAD, x -> x.sheet(0, -1, 1));
    }

    // ---- promise 31

    static void promise31SheetIs0To3() {
        FootIsle x = new FootIsle();
        for (int s = 0; s < 4; s++) {
            x.sheet(s, 0, s + 1);
        }
        due("drop(-1)", x.drop(-1), BAD);
        due("drop(4)", x.drop(4), BAD);
        due("drop(least)", x.drop(LEAST), BAD);
        due("drop(most)", x.drop(MOST), BAD);
        due("drop(0)", x.drop(0), 1);
        due("drop(3)", x.drop(3), 4);
        due("drop(1)", x.drop(1), 2);
        due("drop(2)", x.drop(2), 3);
    }

    static void promise31ItemsAre0To24() {
        FootIsle x = new FootIsle();
        x.sheet(0, 3, 0);
        x.sheet(1, 3, 24);
        due("of none", x.drop(0), 0);
        due("of 24", x.drop(1), 24);
    }

    static void promise31NullIfItHoldsNothing() {
        FootIsle x = new FootIsle();
        due("at first", x.drop(0), NULL);
        x.sheet(0, 0, 0);
        due("a row of none", x.drop(0), 0);
        due("again", x.drop(0), NULL);
        due("an item of nothing", x.item(0, 0, 0, 1), NULL);
        refused("NULL", Sand::busy, NULL, y -> y.drop(3));
        refused("BAD", Sand::busy, BAD, y -> y.drop(4));
    }

    // ---- promise 32

    static void promise32SheetAndLaneAre0To3() {
        FootIsle x = new FootIsle();
        x.sheet(0, 0, 1);
        x.sheet(3, 3, 1);
        due("sheet -1", x.item(-1, 0, 0, 1), BAD);
        due("sheet 4", x.item(4, 0, 0, 1), BAD);
        due("sheet least", x.item(LEAST, 0, 0, 1), BAD);
        due("sheet most", x.item(MOST, 0, 0, 1), BAD);
        due("lane -1", x.item(0, -1, 0, 1), BAD);
        due("lane 4", x.item(3, 4, 0, 1), BAD);
        due("lane least", x.item(0, LEAST, 0, 1), BAD);
        due("lane most", x.item(0, MOST, 0, 1), BAD);
        due("sheet 0, lane 0", x.item(0, 0, 0, 1), 1);
        due("sheet 3, lane 3", x.item(3, 3, 0, 1), 1);
    }

    static void promise32ItemIsOneOfTheRow() {
        FootIsle x = new FootIsle();
        x.sheet(0, 2, 24);
        x.sheet(1, 2, 1);
        due("item -1", x.item(0, 2, -1, 1), INDEX);
        due("item 24", x.item(0, 2, 24, 1), INDEX);
        due("item least", x.item(0, 2, LEAST, 1), INDEX);
        due("item most", x.item(0, 2, MOST, 1), INDEX);
        due("item 0", x.item(0, 2, 0, 1), 1);
        due("item 23", x.item(0, 2, 23, 1), 1);
        due("item 0 of one", x.item(1, 2, 0, 1), 1);
        due("item 1 of one", x.item(1, 2, 1, 1), INDEX);
    }

    static void promise32TheOrderOfRefusals() {
        FootIsle x = nineWith(5);
        due("BAD ahead of NULL", x.item(1, 4, 9, 1), BAD);
        due("BAD ahead of CAST", x.item(0, 4, 9, 1), BAD);
        due("NULL ahead of INDEX", x.item(1, 2, 9, 1), NULL);
        due("CAST ahead of INDEX", x.item(0, 1, 9, 1), CAST);
        due("INDEX", x.item(0, 2, 9, 1), INDEX);
    }

    static void promise32WhatIsRefusedLeavesAll() {
        refused("lane 4", Sand::busy, BAD, x -> x.item(0, 4, 0, 9));
        refused("NULL", Sand::busy, NULL, x -> x.item(3, 2, 0, 9));
        refused("CAST", Sand::busy, CAST, x -> x.item(0, 1, 0, 9));
        refused("INDEX", Sand::busy, INDEX, x -> x.item(0, 2, 4, 9));
        refused("INDEX", Sand::busy, INDEX, x -> x.item(0, 2, -1, 9));
    }

    /** A lane's items hold so many bits: 9 and a bit above them is 9; with a bit among them it is something else. */
    private static void expectBits(int lane, int bits) {
        FootIsle x = nine();
        x.sheet(0, lane, 1);
        for (int bit = 7; bit < 64; bit++) {
            due("item", x.item(0, lane, 0, (1L << bit) + 9), 1);
            due("lane " + lane + ", 9 and bit " + bit, x.raked(0, lane, 0, 0), bit >= bits ? 63 : NOT);
        }
        x.item(0, lane, 0, -1L);
        due("all bits", x.raked(0, lane, 0, 0), NOT);
        x.item(0, lane, 0, Long.MIN_VALUE);
        due("the highest bit", x.raked(0, lane, 0, 0), bits < 64 ? 1 : NOT);
        x.item(0, lane, 0, Long.MAX_VALUE);
        due("all but the highest", x.raked(0, lane, 0, 0), NOT);
        x.item(0, lane, 0, (bits < 64 ? 1L << bits : 0) - 1);
        due("-1 of its own", x.raked(0, lane, 0, 0), NOT);
    }

    static void promise32BytesHold8Bits() {
        expectBits(0, 8);
    }

    static void promise32ShortsHold16Bits() {
        expectBits(1, 16);
    }

    static void promise32IntsHold32Bits() {
        expectBits(2, 32);
    }

    static void promise32LongsHold64Bits() {
        expectBits(3, 64);
    }

    static void promise32NoOtherItemIsChanged() {
        FootIsle x = nineWith(5, 5, 5);
        x.sheet(1, 2, 3);
        due("item", x.item(0, 2, 1, 9), 1);
        expectItems(x, 0, 2, 0, 63, 0);
        expectItems(x, 1, 2, 1, 1, 1);
    }

    // ---- promise 33

    static void promise33SheetsAre0To3() {
        FootIsle x = nine();
        for (int s = 0; s < 4; s++) {
            x.sheet(s, 2, 1);
        }
        due("from -1", x.copy(-1, 0, 0, 0, 1), BAD);
        due("from 4", x.copy(4, 0, 0, 0, 1), BAD);
        due("from least", x.copy(LEAST, 0, 0, 0, 1), BAD);
        due("from most", x.copy(MOST, 0, 0, 0, 1), BAD);
        due("to -1", x.copy(0, 0, -1, 0, 1), BAD);
        due("to 4", x.copy(0, 0, 4, 0, 1), BAD);
        due("to least", x.copy(0, 0, LEAST, 0, 1), BAD);
        due("to most", x.copy(0, 0, MOST, 0, 1), BAD);
        due("from 0 to 3", x.copy(0, 0, 3, 0, 1), 1);
        due("from 3 to 0", x.copy(3, 0, 0, 0, 1), 1);
    }

    static void promise33NullEither() {
        FootIsle x = nineWith(9);
        due("from nothing", x.copy(1, 0, 0, 0, 1), NULL);
        due("to nothing", x.copy(0, 0, 1, 0, 1), NULL);
        due("from nothing to nothing", x.copy(1, 0, 2, 0, 1), NULL);
        due("nothing to itself", x.copy(1, 0, 1, 0, 1), NULL);
        due("no items, from nothing", x.copy(1, 0, 0, 0, 0), NULL);
        due("no items, to nothing", x.copy(0, 0, 1, 0, 0), NULL);
    }

    static void promise33CastOfUnlikeLanes() {
        for (int lane = 0; lane < 4; lane++) {
            for (int other = 0; other < 4; other++) {
                FootIsle x = new FootIsle();
                x.sheet(0, lane, 2);
                x.sheet(1, other, 2);
                due("lane " + lane + " to " + other, x.copy(0, 0, 1, 0, 2), lane == other ? 2 : CAST);
                due("no items", x.copy(0, 0, 1, 0, 0), lane == other ? 0 : CAST);
            }
        }
    }

    static void promise33IndexOfEither() {
        FootIsle x = nine();
        x.sheet(0, 2, 4);
        x.sheet(1, 2, 3);
        due("3 from 1", x.copy(0, 1, 1, 0, 3), 3);
        due("3 from 2", x.copy(0, 2, 1, 0, 3), INDEX);
        due("3 to 1", x.copy(0, 0, 1, 1, 3), INDEX);
        due("4 to three", x.copy(0, 0, 1, 0, 4), INDEX);
        due("4 from three", x.copy(1, 0, 0, 0, 4), INDEX);
        due("from -1", x.copy(0, -1, 1, 0, 1), INDEX);
        due("to -1", x.copy(0, 0, 1, -1, 1), INDEX);
        due("from least", x.copy(0, LEAST, 1, 0, 1), INDEX);
        due("to least", x.copy(0, 0, 1, LEAST, 1), INDEX);
        due("from most", x.copy(0, MOST, 1, 0, 1), INDEX);
        due("to most", x.copy(0, 0, 1, MOST, 1), INDEX);
    }

    static void promise33ItemsBelow0() {
        FootIsle x = nine();
        x.sheet(0, 2, 4);
        x.sheet(1, 2, 3);
        due("n -1", x.copy(0, 0, 1, 0, -1), INDEX);
        due("n -1, from 1", x.copy(0, 1, 1, 1, -1), INDEX);
        due("n least", x.copy(0, 0, 1, 0, LEAST), INDEX);
        due("n most", x.copy(0, 0, 1, 0, MOST), INDEX);
        due("n most, from 1", x.copy(0, 1, 1, 1, MOST), INDEX);
    }

    static void promise33NoItems() {
        FootIsle x = nine();
        x.sheet(0, 2, 4);
        x.sheet(1, 2, 0);
        due("n 0", x.copy(0, 0, 1, 0, 0), 0);
        due("n 0, from the end", x.copy(0, 4, 1, 0, 0), 0);
        due("n 0, beyond the end", x.copy(0, 5, 1, 0, 0), INDEX);
        due("n 0, to beyond the end", x.copy(0, 0, 1, 1, 0), INDEX);
        due("n 0, from -1", x.copy(0, -1, 1, 0, 0), INDEX);
        due("n 0, to -1", x.copy(0, 0, 1, -1, 0), INDEX);
        due("n 1", x.copy(0, 0, 1, 0, 1), INDEX);
    }

    static void promise33All24() {
        FootIsle x = nine();
        x.sheet(0, 3, 24);
        x.sheet(1, 3, 24);
        x.item(0, 3, 0, 9);
        x.item(0, 3, 23, 5);
        due("24", x.copy(0, 0, 1, 0, 24), 24);
        due("the first", x.raked(1, 3, 0, 0), 63);
        due("the last", x.raked(1, 3, 23, 0), 0);
        due("25", x.copy(0, 0, 1, 0, 25), INDEX);
    }

    static void promise33TheSameAsIfAllWereTakenAhead() {
        FootIsle x = nineWith(9, 0, 5, 5);
        due("forwards", x.copy(0, 0, 0, 1, 3), 3); // 9 9 0 5
        expectItems(x, 0, 2, 63, 63, 1, 0);
        x = nineWith(9, 0, 5, 9);
        due("backwards", x.copy(0, 1, 0, 0, 3), 3); // 0 5 9 9
        expectItems(x, 0, 2, 1, 0, 63, 63);
        due("onto itself", x.copy(0, 0, 0, 0, 4), 4);
        expectItems(x, 0, 2, 1, 0, 63, 63);
    }

    static void promise33NoOtherItemIsChanged() {
        FootIsle x = nineWith(9, 5, 9, 5);
        x.sheet(1, 2, 4);
        due("copy", x.copy(0, 1, 1, 1, 2), 2);
        expectItems(x, 0, 2, 63, 0, 63, 0);
        expectItems(x, 1, 2, 1, 0, 63, 1);
    }

    static void promise33TheOrderOfRefusals() {
        FootIsle x = new FootIsle();
        x.sheet(0, 2, 1);
        x.sheet(1, 3, 1);
        due("BAD ahead of NULL", x.copy(2, 0, 4, 0, 1), BAD);
        due("BAD ahead of NULL", x.copy(4, 0, 2, 0, 1), BAD);
        due("NULL ahead of INDEX", x.copy(0, 9, 2, 0, 1), NULL);
        due("CAST ahead of INDEX", x.copy(0, 9, 1, 9, -1), CAST);
        due("INDEX", x.copy(0, 9, 0, 9, 1), INDEX);
    }

    static void promise33WhatIsRefusedLeavesAll() {
        refused("BAD", Sand::busy, BAD, x -> x.copy(0, 0, 4, 0, 1));
        refused("NULL", Sand::busy, NULL, x -> x.copy(0, 0, 3, 0, 1));
        refused("CAST", Sand::busy, CAST, x -> x.copy(0, 0, 2, 0, 1));
        refused("INDEX", Sand::busy, INDEX, x -> x.copy(0, 0, 1, 0, 4));
        refused("INDEX", Sand::busy, INDEX, x -> x.copy(0, 2, 1, 0, 3));
        refused("INDEX", Sand::busy, INDEX, x -> x.copy(0, 0, 1, 2, 2));
        refused("INDEX", Sand::busy, INDEX, x -> x.copy(0, 0, 0, 2, 3));
    }
}
