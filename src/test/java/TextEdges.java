/** Edges of promises 8 and 9: letters, and isles as texts. */
final class TextEdges extends Sand {
    private static final String SIX = "21;p100,s211,h322,k433,o544,p955";

    private TextEdges() {
    }

    private static String blanks(int n) {
        return " ".repeat(n);
    }

    private static void expectFault(String text, int place) {
        FootIsle x = new FootIsle();
        due("settle() of '" + text + "'", settleAs(x, text), -20 - place);
    }

    private static void expectWalkers(String text, int walkers) {
        FootIsle x = new FootIsle();
        due("settle() of '" + text + "'", settleAs(x, text), walkers);
        due("count(0) of '" + text + "'", x.count(0), walkers);
    }

    // ---- promise 8

    static void promise08LettersAre32To126() {
        FootIsle x = new FootIsle();
        due("type(31)", x.type(31), BAD);
        due("type(127)", x.type(127), BAD);
        due("type(0)", x.type(0), BAD);
        due("type(-1)", x.type(-1), BAD);
        due("type(288)", x.type(32 + 256), BAD);
        due("type(65584)", x.type('0' + 65536), BAD);
        due("type(least)", x.type(LEAST), BAD);
        due("type(most)", x.type(MOST), BAD);
        due("type(32)", x.type(32), 1);
        due("type(126)", x.type(126), 2);
    }

    static void promise08SixtyAreFull() {
        FootIsle x = new FootIsle();
        for (int i = 1; i <= 60; i++) {
            due("letter " + i, x.type('0'), i);
        }
        due("a 61st", x.type('0'), FULL);
        due("a 61st, again", x.type('0'), FULL);
    }

    static void promise08BadStandsAheadOfFull() {
        FootIsle x = new FootIsle();
        typeAll(x, blanks(60));
        due("type(31)", x.type(31), BAD);
        due("type(127)", x.type(127), BAD);
        due("type(126)", x.type(126), FULL);
    }

    static void promise08ABadLetterIsNotTaken() {
        FootIsle x = new FootIsle();
        typeAll(x, "21;p1");
        x.type(31);
        x.type(127);
        due("type", x.type('3'), 6);
        due("type", x.type('3'), 7);
        due("settle()", x.settle(), 1);
        refused("type(31)", Sand::busy, BAD, y -> y.type(31));
        refused("type(127)", Sand::busy, BAD, y -> y.type(127));
    }

    static void promise08ALetterTooManyIsNotTaken() {
        FootIsle x = new FootIsle();
        typeAll(x, "21;p133" + blanks(53));
        due("a 61st", x.type('x'), FULL);
        due("settle()", x.settle(), 1);
    }

    static void promise08ABlankIsALetter() {
        FootIsle x = new FootIsle();
        due("type", x.type(' '), 1);
        due("type", x.type(' '), 2);
    }

    // ---- promise 9

    static void promise09TheTapeIsEmptyThen() {
        FootIsle x = isle("21;p133");
        due("the next letter", x.type('2'), 1);
        due("settle() of one letter", x.settle(), -21);
        due("the next letter, behind a FAULT", x.type('2'), 1);
    }

    static void promise09AFullTapeIsEmptyThen() {
        FootIsle x = new FootIsle();
        typeAll(x, "21;p133" + blanks(53));
        due("settle()", x.settle(), 1);
        due("the next letter", x.type('2'), 1);
    }

    static void promise09AnEmptyTapeIsAFault() {
        expectFault("", 0);
        FootIsle x = isle("21;p133");
        due("settle() once more", x.settle(), -20);
        due("count(0)", x.count(0), 1);
    }

    static void promise09TheEndIsHowManyThereAre() {
        String text = "21;p100,s211";
        for (int n = 0; n < text.length(); n++) {
            if (n == 7) {
                expectWalkers(text.substring(0, n), 1);
            } else {
                expectFault(text.substring(0, n), n);
            }
        }
        expectWalkers(text, 2);
    }

    static void promise09TheEndBehindBlanksIsHowManyThereAre() {
        String text = "21;p100,s211";
        for (int n = 0; n < text.length(); n++) {
            if (n != 7) {
                expectFault(text.substring(0, n) + blanks(3), n + 3);
            }
        }
        expectFault(blanks(1), 1);
        expectFault(blanks(60), 60);
        expectFault("21;p10" + blanks(54), 60);
    }

    static void promise09TheEndOfAFullTapeIs60() {
        String text = "21;p100,s211";
        for (int n = 0; n < text.length(); n++) {
            if (n != 7) {
                expectFault(text.substring(0, n) + blanks(60 - n), 60);
                expectFault(blanks(60 - n) + text.substring(0, n), 60);
            }
        }
    }

    static void promise09LettersOfAnEarlierTapeAreGone() {
        String text = "21;p100,s211";
        for (int n = 0; n < text.length(); n++) {
            FootIsle x = isle(text);
            due("the first " + n + " again", settleAs(x, text.substring(0, n)), n == 7 ? 1 : -20 - n);
        }
    }

    static void promise09AFaultsPlaceIsBehindBlanks() {
        expectFault("  x", 2);
        expectFault("2  x", 3);
        expectFault("21  x", 4);
        expectFault("21;  x", 5);
        expectFault("21;p  x", 6);
        expectFault("21;p1  x", 7);
        expectFault("21;p10  x", 8);
        expectFault("21;p100  x", 9);
        expectFault("21;p100,  x", 10);
        expectFault(blanks(59) + "x", 59);
        expectFault("21;p100" + blanks(52) + ";", 59);
    }

    static void promise09BlanksCountForNothing() {
        expectWalkers("  2  1  ;  p  1  0  0  ,  s  2  1  1  ", 2);
        expectWalkers("21;p100" + blanks(53), 1);
        expectWalkers(blanks(53) + "21;p100", 1);
    }

    static void promise09NoOtherSignIsABlank() {
        expectFault("\"21;p100", 0);
        expectFault("!21;p100", 0);
        expectFault("21;p100_", 7);
    }

    static void promise09OfSeveralFaultsTheFirstIsTold() {
        expectFault("2x;x", 1);
        expectFault("21;p9x9", 5);
        expectFault("21xp100,s211,x", 2);
    }

    static void promise09WindIsOneDigit() {
        expectFault("/1;p100", 0);
        expectFault(":1;p100", 0);
        expectFault("-1;p100", 0);
        for (int wind = 0; wind <= 9; wind++) {
            FootIsle x = isle(wind + "1;p100");
            due("WIND", x.count(3), wind);
        }
    }

    static void promise09ReachIs0To3() {
        expectFault("2/;p100", 1);
        expectFault("24;p100", 1);
        expectFault("29;p100", 1);
        for (int reach = 0; reach <= 3; reach++) {
            FootIsle x = isle("2" + reach + ";p100");
            due("REACH", x.count(4), reach);
        }
    }

    static void promise09TwoDigitsNoMoreNoLess() {
        expectFault("2;p100", 1);
        expectFault("211;p100", 2);
    }

    static void promise09ASemicolonComesThen() {
        expectFault("21:p100", 2);
        expectFault("21<p100", 2);
        expectFault("21,p100", 2);
        expectFault("21p100", 2);
        expectFault("21;;p100", 3);
    }

    static void promise09KindsAreFiveLetters() {
        String letters = "pshko";
        for (int c = 33; c <= 126; c++) {
            String text = "21;" + (char) c + "345";
            int kind = letters.indexOf(c);
            if (kind < 0) {
                expectFault(text, 3);
            } else {
                FootIsle x = isle(text);
                due("KIND of " + (char) c, x.of(0, 0), kind);
            }
        }
    }

    static void promise09WeightIs1To9() {
        expectFault("21;p000", 4);
        expectFault("21;p/00", 4);
        expectFault("21;p:00", 4);
        for (int weight = 1; weight <= 9; weight++) {
            FootIsle x = isle("21;p" + weight + "00");
            due("WEIGHT", x.of(0, 1), weight);
        }
    }

    static void promise09XIs0To7() {
        expectFault("21;p1/0", 5);
        expectFault("21;p180", 5);
        expectFault("21;p190", 5);
        for (int at = 0; at <= 7; at++) {
            FootIsle x = isle("21;p1" + at + "0");
            due("CELL", x.of(0, 2), at);
        }
    }

    static void promise09YIs0To7() {
        expectFault("21;p10/", 6);
        expectFault("21;p108", 6);
        expectFault("21;p109", 6);
        for (int at = 0; at <= 7; at++) {
            FootIsle x = isle("21;p10" + at);
            due("CELL", x.of(0, 2), 8 * at);
        }
    }

    static void promise09ACommaStandsBetween() {
        expectFault("21;p100+s211", 7);
        expectFault("21;p100-s211", 7);
        expectFault("21;p100;s211", 7);
        expectFault("21;p100s211", 7);
        expectFault("21;p1000", 7);
        expectFault("21;,p100", 3);
        expectFault("21;p100,,s211", 8);
        expectFault("21;p100,", 8);
    }

    static void promise09OneWalkerAtLeast() {
        expectFault("21;", 3);
        expectFault("21; ", 4);
        expectWalkers("21;p100", 1);
    }

    static void promise09SixWalkersAtMost() {
        expectWalkers(SIX, 6);
        expectFault(SIX + ",p100", 32);
        expectFault(SIX + ",", 32);
        expectFault(SIX + "  ,", 34);
        expectFault(SIX + "x", 32);
        expectWalkers(SIX + "  ", 6);
    }

    static void promise09WalkersAreAsTheText() {
        FootIsle x = isle(SIX);
        int[] weights = {1, 2, 3, 4, 5, 9};
        for (int w = 0; w < 6; w++) {
            due("KIND of " + w, x.of(w, 0), w % 5);
            due("WEIGHT of " + w, x.of(w, 1), weights[w]);
            due("CELL of " + w, x.of(w, 2), 9 * w);
            due("STEPS of " + w, x.of(w, 3), 0);
        }
    }

    static void promise09AllStaysByAFault() {
        String[] texts = {"x", "", "2", "21;p1338", "21;p133,x"};
        for (String text : texts) {
            FootIsle x = emptyTape();
            due("settle() of '" + text + "'", settleAs(x, text) <= -20 ? 1 : 0, 1);
            sameAll("a FAULT of '" + text + "'", x, emptyTape());
        }
    }

    private static FootIsle emptyTape() {
        FootIsle x = busy();
        x.settle();
        return x;
    }

    static void promise09ItStandsInPlaceOfAllWalkers() {
        FootIsle x = isle(SIX);
        due("settle()", settleAs(x, "21;h277"), 1);
        due("of(0, 0)", x.of(0, 0), 2);
        due("of(1, 0)", x.of(1, 0), BAD);
    }

    static void promise09ItStandsInPlaceOfAllPrints() {
        FootIsle x = isle("21;k933,k100");
        walk(x, 0, "0011");
        walk(x, 1, "0000");
        settleAs(x, "21;p133,p100");
        for (int c = 0; c < 64; c++) {
            due("in " + c, x.print(0, c) + x.print(1, c), 0);
        }
        due("CELLS with PRINTS", x.count(9), 0);
        due("STEPS", x.of(0, 3), 0);
    }

    static void promise09PrintsOfThoseNoLongerThereAreGone() {
        FootIsle x = isle("21;p133,k933");
        walk(x, 1, "00");
        settleAs(x, "21;p133");
        due("CELLS with PRINTS", x.count(9), 0);
        due("rake", x.rake(cell(4, 3)), 0);
        x.walker(0, 1, 0);
        due("of a new one", x.print(1, cell(4, 3)), 0);
    }

    static void promise09HourIs0() {
        FootIsle x = isle("21;p133");
        x.hours(5);
        settleAs(x, "21;p133");
        due("HOUR", x.count(1), 0);
    }

    static void promise09AllElseStays() {
        FootIsle x = isle("21;p133");
        x.isle(WET, 8);
        x.isle(TIDE, 12);
        x.isle(FLOOD, 0);
        x.seed(MOST);
        x.sheet(2, 1, 5);
        x.image();
        due("settle()", settleAs(x, "93;p100"), 1);
        due("WET", x.count(2), 8);
        due("TIDE", x.count(5), 12);
        due("FLOOD", x.count(6), 0);
        due("THE DRAW", x.seed(1), MOST);
        due("a SHEET", x.drop(2), 5);
        due("the IMAGE", x.restore(), 1);
        due("WIND of the IMAGE", x.count(3), 2);
    }

    static void promise09NothingIsLeftToBeUndone() {
        FootIsle x = nine();
        settleAs(x, "21;p133");
        due("count(7)", x.count(7), 0);
        due("undo()", x.undo(), NONE);
    }

    static void promise09AFaultLeavesWhatMayBeUndone() {
        FootIsle x = nine();
        settleAs(x, "21;p13");
        due("count(7)", x.count(7), 1);
        due("undo()", x.undo(), 0);
        due("CELL", x.of(0, 2), cell(2, 3));
    }
}
