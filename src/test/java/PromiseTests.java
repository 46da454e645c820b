/** For each promise of the document: ordinary inputs, the edges that it names, wrong inputs. Numbers are worked out by hand. */
public final class PromiseTests extends Sand {
    private static int promise = 0;

    private PromiseTests() {
    }

    public static void main(String[] args) {
        newObject();
        walkers();
        ofAWalker();
        settings();
        prints();
        claims();
        holders();
        letters();
        isles();
        counts();
        stepsOfKinds();
        stepsRefused();
        hoursPass();
        lastHours();
        drifts();
        rakes();
        undone();
        undoneIsBounded();
        seeds();
        aheads();
        lands();
        lastings();
        counties();
        ways();
        walksOfOne();
        walksOfKinds();
        wells();
        crabCounts();
        images();
        rakedCells();
        shoesTold();
        films();
        sheets();
        items();
        copies();
        Check.end("PromiseTests");
    }

    static void due(String call, long got, long want) {
        Check.due("promise " + promise + ": " + call, got, want);
    }

    private static void newObject() {
        promise = 1;
        FootIsle x = new FootIsle();
        int[] want = {0, 0, 3, 2, 1, 6, 2, 0, 0, 0};
        for (int i = 0; i < want.length; i++) {
            due("count(" + i + ")", x.count(i), want[i]);
        }
        due("seed(5)", x.seed(5), 1);
        due("undo()", x.undo(), NONE);
        due("restore()", x.restore(), NONE);
        due("of(0, 0)", x.of(0, 0), BAD);
        for (int i = 0; i < 4; i++) {
            due("drop(" + i + ")", x.drop(i), NULL);
        }
        for (int c = 0; c < 64; c++) {
            due("held(" + c + ")", x.held(c), NONE);
        }
        due("settle()", x.settle(), -20);
        due("type(48)", x.type(48), 1);
    }

    private static void walkers() {
        promise = 2;
        FootIsle x = new FootIsle();
        int[][] bad = {{-1, 1, 0}, {5, 1, 0}, {0, 0, 0}, {0, 10, 0}, {0, 1, -1}, {0, 1, 64}};
        for (int[] b : bad) {
            due("walker, a number not as told", x.walker(b[0], b[1], b[2]), BAD);
        }
        due("count(0)", x.count(0), 0);
        for (int i = 0; i < 6; i++) {
            due("walker " + i, x.walker(i % 5, i % 2 == 0 ? 1 : 9, i == 5 ? 63 : i), i);
            due("of 2", x.of(i, 2), i == 5 ? 63 : i);
        }
        due("a seventh", x.walker(0, 1, 0), FULL);
        due("a seventh, of no kind", x.walker(5, 1, 0), BAD);
        due("count(0)", x.count(0), 6);
        FootIsle y = isle("21;p133");
        y.step(0, 0);
        y.walker(7, 1, 0);
        due("count(7)", y.count(7), 1);
        y.walker(0, 1, 0);
        due("count(7)", y.count(7), 0);
        due("print stays", y.print(0, cell(4, 3)), 1);
    }

    private static void ofAWalker() {
        promise = 3;
        FootIsle x = isle("21;p312,s423,h534,k645,o756,s367");
        int[] kinds = {0, 1, 2, 3, 4, 1};
        int[] deep = {3, 4, 10, 12, 8, 3};
        int[] whose = {0, 2, 2, 3, 4, 0};
        for (int w = 0; w < 6; w++) {
            due("KIND of " + w, x.of(w, 0), kinds[w]);
            due("WEIGHT of " + w, x.of(w, 1), w == 5 ? 3 : w + 3);
            due("CELL of " + w, x.of(w, 2), cell(w + 1, w + 2));
            due("STEPS of " + w, x.of(w, 3), 0);
            due("how deep " + w, x.of(w, 4), deep[w]);
            due("whose shoes " + w, x.of(w, 5), whose[w]);
            due("LAND of " + w, x.of(w, 6), 0);
        }
        x.step(0, 0);
        due("STEPS", x.of(0, 3), 1);
        due("CELL", x.of(0, 2), cell(2, 2));
        due("LAND", x.of(0, 6), 9);
        FootIsle shallow = isle("21;p133");
        shallow.step(0, 0);
        due("LAND now, though gone in an hour", shallow.of(0, 6), 9);
        due("of(6, 0)", x.of(6, 0), BAD);
        due("of(-1, 0)", x.of(-1, 0), BAD);
        due("of(0, 7)", x.of(0, 7), BAD);
        due("of(0, -1)", x.of(0, -1), BAD);
        FootIsle y = isle("21;s133");
        due("the one SHOD wears its own", y.of(0, 5), 0);
        y.walker(0, 1, 0);
        due("the next one's, when one has come", y.of(0, 5), 1);
    }

    private static void settings() {
        promise = 4;
        FootIsle x = new FootIsle();
        int[] first = {3, 2, 1, 6, 2};
        int[] least = {0, 0, 0, 2, 0};
        int[] most = {8, 9, 3, 12, 8};
        for (int what = 0; what < 5; what++) {
            due("isle " + what + " too low", x.isle(what, least[what] - 1), BAD);
            due("isle " + what + " too high", x.isle(what, most[what] + 1), BAD);
            due("isle " + what + " least", x.isle(what, least[what]), first[what]);
            due("isle " + what + " most", x.isle(what, most[what]), least[what]);
            due("count " + (what + 2), x.count(what + 2), most[what]);
        }
        due("isle(-1, 2)", x.isle(-1, 2), BAD);
        due("isle(5, 2)", x.isle(5, 2), BAD);
        FootIsle y = isle("21;p133");
        y.step(0, 0);
        y.isle(1, 3);
        due("what may be undone stays", y.count(7), 1);
    }

    private static void prints() {
        promise = 5;
        FootIsle x = isle("21;h933,p122");
        for (int i = 1; i <= 6; i++) {
            walk(x, 0, "02");
            due("print(0, 28)", x.print(0, cell(4, 3)), Math.min(99, 18 * i));
            due("print(0, 27)", x.print(0, cell(3, 3)), Math.min(99, 18 * i));
        }
        due("print(1, 28)", x.print(1, cell(4, 3)), 0);
        due("print(0, 63)", x.print(0, 63), 0);
        due("print(2, 0)", x.print(2, 0), BAD);
        due("print(-1, 0)", x.print(-1, 0), BAD);
        due("print(0, 64)", x.print(0, 64), BAD);
        due("print(0, -1)", x.print(0, -1), BAD);
    }

    private static void claims() {
        promise = 6;
        FootIsle x = isle("21;p333,p577");
        x.step(0, 0); // 3 deep at 4 3
        walk(x, 0, "00000"); // 3 at 5 3, 6 3, 7 3
        walk(x, 0, "20"); // 6 at 6 3 and 7 3
        for (int reach = 0; reach <= 3; reach++) {
            x.isle(2, reach);
            for (int dx = -4; dx <= 0; dx++) {
                due("claim, reach " + reach + ", " + dx, x.claim(0, cell(4 + dx, 3)), -dx <= reach ? (dx + reach >= 2 ? 6 : 3) : 0);
                due("claim above", x.claim(0, cell(4 + dx, 7)), 0);
            }
            due("claim by rows", x.claim(0, cell(7, 3 + reach)), 6);
            due("claim a row more", x.claim(0, cell(7, 4 + reach)), 0);
        }
        due("claim of who has none", x.claim(1, cell(4, 3)), 0);
        FootIsle y = isle("21;p317,p801,p377");
        y.step(0, 0); // 3 at 2 7
        y.step(1, 3); // 8 at 0 0
        due("at the far rim", y.claim(0, cell(3, 7)), 3);
        due("not of the next one, at the shore", y.claim(1, cell(3, 0)), 0);
        due("from cell 0", y.claim(1, cell(1, 1)), 8);
        y = isle("21;p810,p377");
        y.step(0, 2); // 8 at 0 0
        due("from cell 0, of WALKER 0", y.claim(0, cell(1, 1)), 8);
        due("claim(2, 0)", x.claim(2, 0), BAD);
        due("claim(-1, 0)", x.claim(-1, 0), BAD);
        due("claim(0, 64)", x.claim(0, 64), BAD);
        due("claim(0, -1)", x.claim(0, -1), BAD);
    }

    private static void holders() {
        promise = 7;
        FootIsle x = isle("21;p313,p353,p453");
        x.step(0, 0); // 3 at 2 3
        x.step(1, 2); // 3 at 4 3
        due("near one", x.held(cell(1, 3)), 0);
        due("near the other", x.held(cell(5, 3)), 1);
        due("both alike", x.held(cell(3, 3)), NONE);
        due("none near", x.held(cell(7, 7)), NONE);
        x.step(2, 2); // 4 at 4 3
        due("the deepest", x.held(cell(3, 3)), 2);
        x.step(0, 0); // 3 at 3 3
        x.step(0, 2); // 6 at 2 3
        due("deeper yet", x.held(cell(3, 3)), 0);
        FootIsle y = isle("21;p133");
        y.step(0, 0);
        due("now, though gone in an hour", y.held(cell(3, 3)), 0);
        due("held(64)", x.held(64), BAD);
        due("held(-1)", x.held(-1), BAD);
    }

    private static void letters() {
        promise = 8;
        FootIsle x = new FootIsle();
        due("type(31)", x.type(31), BAD);
        due("type(127)", x.type(127), BAD);
        due("type(-1)", x.type(-1), BAD);
        for (int i = 1; i <= 60; i++) {
            due("type", x.type(i % 2 == 0 ? 32 : 126), i);
        }
        due("type(50), a 61st", x.type(50), FULL);
        due("type(31), a 61st", x.type(31), BAD);
        due("settle()", x.settle(), -20);
        due("type(50)", x.type(50), 1);
    }

    private static void isles() {
        promise = 9;
        FootIsle x = isle("21;p933,h255");
        x.isle(0, 5);
        x.isle(3, 7);
        x.isle(4, 1);
        x.seed(99);
        x.step(0, 0);
        x.hours(2);
        String[] faulty = {"", "  ", "x", "2", "2 ", "24", "21", "21:", "21;", "21;x", "21;p", "21;p0", "21;p1", "21;p18", "21;p1 0", "21;p108",
            "21;p100x", "21;p100,", "21;p100,,", " 2 1 ; p 1 0 0 ; ", "21;p100,s111,h122,k133,o144,p155,", "P1;p100", "21;P100", "a1;p100", ";p100", "21;00", "21;,p100", "21;p,00", "2 ;p100"};
        int[] places = {0, 2, 0, 1, 2, 1, 2, 2, 3, 3, 4, 4, 5, 5, 7, 6, 7, 8, 8, 15, 32, 0, 3, 0, 0, 3, 3, 4, 2};
        for (int i = 0; i < faulty.length; i++) {
            due("settle() of '" + faulty[i] + "'", settleAs(x, faulty[i]), -20 - places[i]);
        }
        due("all stays: walkers", x.count(0), 2);
        due("all stays: hour", x.count(1), 2);
        due("all stays: to be undone", x.count(7), 3);
        due("settle()", settleAs(x, " 9 0;k 9 70,o107 "), 2);
        int[] want = {2, 0, 5, 9, 0, 7, 1, 0, 0, 0};
        for (int i = 0; i < want.length; i++) {
            due("count(" + i + ")", x.count(i), want[i]);
        }
        due("x, then y", x.of(0, 2), cell(7, 0));
        due("x, then y", x.of(1, 2), cell(0, 7));
        due("kind", x.of(1, 0), 4);
        due("weight", x.of(0, 1), 9);
        due("steps", x.of(0, 3), 0);
        due("nothing to be undone", x.undo(), NONE);
        for (int c = 0; c < 64; c++) {
            due("no print", x.print(0, c) + x.print(1, c), 0);
        }
        for (int reach = 0; reach <= 3; reach++) {
            due("settle()", settleAs(x, "0" + reach + ";p177"), 1);
            due("REACH", x.count(4), reach);
        }
        due("the draw stays", x.seed(1), 99);
    }

    private static void counts() {
        promise = 10;
        FootIsle x = isle("32;p333,k343");
        x.step(0, 2); // 3 at 2 3
        x.step(1, 2); // 6 at 4 3 and 3 3
        x.hours(1); // 0 and 3
        int[] want = {2, 1, 3, 3, 2, 6, 2, 3, 30, 2};
        for (int i = 0; i < want.length; i++) {
            due("count(" + i + ")", x.count(i), want[i]);
        }
        x.step(0, 0);
        due("two prints on one cell", x.count(9), 2);
        FootIsle y = isle("21;p110");
        y.step(0, 2); // 1 at 0 0
        due("one print, 1 deep, at cell 0", y.count(9), 1);
        due("held behind 48 hours", y.land(0, 48), 0);
        due("held now", y.count(8), 4);
        FootIsle z = isle("21;p177,p110");
        z.step(1, 2); // 1 at 0 0, of WALKER 1
        due("one print at cell 0, of another", z.count(9), 1);
        due("count(10)", x.count(10), BAD);
        due("count(-1)", x.count(-1), BAD);
    }

    private static void stepsOfKinds() {
        promise = 11;
        FootIsle x = isle("21;p313,s423,h533,k643,o753,s263");
        due("PLAIN", x.step(0, 1), cell(1, 4));
        due("its print", x.print(0, cell(1, 4)), 3);
        due("none where it was", x.print(0, cell(1, 3)), 0);
        due("SHOD", x.step(1, 1), cell(2, 4));
        due("none of its own", x.print(1, cell(2, 4)), 0);
        due("the next one's", x.print(2, cell(2, 4)), 4);
        due("the last one, SHOD", x.step(5, 1), cell(6, 4));
        due("of WALKER 0", x.print(0, cell(6, 4)), 2);
        due("HEAVY", x.step(2, 1), cell(3, 4));
        due("twice", x.print(2, cell(3, 4)), 10);
        due("none where it was", x.print(2, cell(3, 3)), 0);
        due("HORSE", x.step(3, 1), cell(4, 4));
        due("twice", x.print(3, cell(4, 4)), 12);
        due("and where it was", x.print(3, cell(4, 3)), 12);
        due("HORSE", x.step(3, 3), cell(4, 3));
        due("deeper", x.print(3, cell(4, 4)), 24);
        due("deeper", x.print(3, cell(4, 3)), 24);
        due("HOPPER", x.step(4, 1), cell(5, 4));
        due("not its first", x.print(4, cell(5, 4)), 0);
        due("HOPPER", x.step(4, 1), cell(5, 5));
        due("its second", x.print(4, cell(5, 5)), 8);
        due("HOPPER", x.step(4, 0), cell(6, 5));
        due("HOPPER", x.step(4, 2), cell(5, 5));
        due("its fourth", x.print(4, cell(5, 5)), 16);
        due("STEPS", x.of(4, 3), 4);
    }

    private static void stepsRefused() {
        promise = 11;
        FootIsle x = isle("21;p100,p177");
        due("step(0, 2)", x.step(0, 2), NOT);
        due("step(0, 3)", x.step(0, 3), NOT);
        due("step(1, 0)", x.step(1, 0), NOT);
        due("step(1, 1)", x.step(1, 1), NOT);
        due("step(2, 0)", x.step(2, 0), BAD);
        due("step(-1, 0)", x.step(-1, 0), BAD);
        due("step(0, 4)", x.step(0, 4), BAD);
        due("step(0, -1)", x.step(0, -1), BAD);
        due("nothing is changed", x.of(0, 3), 0);
        due("nothing is changed", x.count(7), 0);
        due("step(0, 0)", x.step(0, 0), 1);
        due("step(0, 1)", x.step(0, 1), 9);
        due("step(0, 2)", x.step(0, 2), 8);
        due("step(0, 3)", x.step(0, 3), 0);
        due("step(1, 2)", x.step(1, 2), 62);
        due("step(1, 3)", x.step(1, 3), 54);
        for (int i = 0; i < 8; i++) {
            due("beyond x 7", isle("21;p17" + i).step(0, 0), NOT);
            due("beyond y 7", isle("21;p1" + i + "7").step(0, 1), NOT);
            due("beyond x 0", isle("21;p10" + i).step(0, 2), NOT);
            due("beyond y 0", isle("21;p1" + i + "0").step(0, 3), NOT);
            due("to x 7", isle("21;p16" + i).step(0, 0), cell(7, i));
            due("to y 7", isle("21;p1" + i + "6").step(0, 1), cell(i, 7));
            due("to x 0", isle("21;p11" + i).step(0, 2), cell(0, i));
            due("to y 0", isle("21;p1" + i + "1").step(0, 3), cell(i, 0));
        }
    }

    private static void hoursPass() {
        promise = 12;
        FootIsle x = isle("31;p704,p912");
        walk(x, 0, "3333"); // 7 at 0 3, 0 2, 0 1, 0 0
        due("hours(1)", x.hours(1), 10);
        due("dry sand", x.print(0, cell(0, 3)), 4);
        due("wet sand", x.print(0, cell(0, 2)), 6);
        due("hours(4)", x.hours(4), 8);
        due("not below 0", x.print(0, cell(0, 3)), 0);
        due("wet sand", x.print(0, cell(0, 1)), 2);
        due("hours(1)", x.hours(1), 6);
        due("beyond the flood", x.print(0, cell(0, 2)), 1);
        due("flooded", x.print(0, cell(0, 1)), 0);
        due("flooded", x.print(0, cell(0, 0)), 0);
        due("HOUR", x.count(1), 6);
        due("each hour may be undone", x.count(7), 8);
        due("hours(0)", x.hours(0), BAD);
        due("hours(25)", x.hours(25), BAD);
        due("hours(-1)", x.hours(-1), BAD);
        due("hours(24)", x.hours(24), 0);
        FootIsle y = isle("01;p144");
        y.step(0, 0);
        due("no wind", y.hours(24), 9);
        due("no wind", y.print(0, cell(5, 4)), 1);
        FootIsle six = isle("21;p100,p110,p120,p130,p140,p956");
        six.step(5, 1); // 9 at 5 7
        due("of six", six.hours(1), 6);
        due("of six", six.print(5, cell(5, 7)), 7);
    }

    private static void lastHours() {
        promise = 12;
        FootIsle x = new FootIsle();
        for (int i = 0; i < 416; i++) {
            x.hours(24);
        }
        due("hours(16)", x.hours(16), FULL);
        promise = 13;
        due("drift(16)", x.drift(16), FULL);
        due("drift(25)", x.drift(25), BAD);
        due("drift(1)", x.drift(1), 0);
        promise = 12;
        due("hours(14)", x.hours(14), 0);
        due("HOUR", x.count(1), 9999);
        due("hours(1)", x.hours(1), FULL);
        due("hours(0)", x.hours(0), BAD);
        due("undo()", x.undo(), 7);
        due("hours(1)", x.hours(1), 0);
        promise = 17;
        due("ahead(0, 48)", x.ahead(0, 48), NONE);
    }

    private static void drifts() {
        promise = 13;
        FootIsle x = isle("21;p550,p970");
        x.step(0, 0); // 5 at 6 0
        x.step(1, 2); // 9 at 6 0
        x.step(1, 2); // 9 at 5 0
        due("drift(1)", x.drift(1), 2);
        due("crabs rake cell 6", x.print(0, 6), 0);
        due("crabs rake cell 6", x.print(1, 6), 0);
        due("no other", x.print(1, 5), 8);
        due("HOUR", x.count(1), 1);
        due("to be undone", x.count(7), 4);
        due("the draw", x.seed(1), 1103527590);
        due("undo()", x.undo(), 3);
        due("as ahead of it", x.print(0, 6), 5);
        due("the draw, too", x.seed(1), 1);
        x.hours(4);
        due("an hour first, then crabs", x.drift(1), 1);
        due("drift(0)", x.drift(0), BAD);
        due("drift(25)", x.drift(25), BAD);
        due("the draw", x.seed(0), 1103527590);
        FootIsle y = isle("01;p925"); // the cells from 1 on are 6, 62, 1, 43, 11, 59
        y.step(0, 0); // 9 at 3 5
        due("not yet", y.drift(3), 0);
        due("cell 43", y.drift(1), 1);
        walk(y, 0, "2"); // 9 at 2 5
        due("not there", y.drift(2), 0);
    }

    private static void rakes() {
        promise = 14;
        FootIsle x = isle("21;p333,p353,p177");
        x.step(0, 0);
        x.step(1, 2);
        due("rake", x.rake(cell(4, 3)), 2);
        due("print", x.print(0, cell(4, 3)), 0);
        due("print", x.print(1, cell(4, 3)), 0);
        due("again", x.rake(cell(4, 3)), 0);
        due("each may be undone", x.count(7), 4);
        due("rake(64)", x.rake(64), BAD);
        due("rake(-1)", x.rake(-1), BAD);
        due("what is refused leaves nothing to undo", x.count(7), 4);
    }

    private static void undone() {
        promise = 15;
        FootIsle x = isle("21;k333,p100");
        x.step(0, 0);
        x.seed(77);
        x.isle(1, 5);
        x.isle(2, 0);
        due("a step", x.undo(), 0);
        due("where", x.of(0, 2), cell(3, 3));
        due("steps", x.of(0, 3), 0);
        due("print", x.print(0, cell(3, 3)), 0);
        due("print", x.print(0, cell(4, 3)), 0);
        due("the draw, whatever was told since", x.seed(3), 1);
        due("WIND stays as told", x.count(3), 5);
        due("REACH stays as told", x.count(4), 0);
        due("none", x.undo(), NONE);
        x.step(0, 0);
        x.hours(2);
        due("an hour", x.undo(), 2);
        due("HOUR", x.count(1), 1);
        due("print", x.print(0, cell(4, 3)), 1);
        x.rake(cell(4, 3));
        due("a raking", x.undo(), 2);
        due("print", x.print(0, cell(4, 3)), 1);
        due("an hour", x.undo(), 1);
        due("HOUR", x.count(1), 0);
        due("print", x.print(0, cell(4, 3)), 6);
    }

    private static void undoneIsBounded() {
        promise = 15;
        FootIsle x = isle("21;p100");
        walk(x, 0, "000000011");
        due("count(7)", x.count(7), 8);
        for (int left = 7; left >= 0; left--) {
            due("undo()", x.undo(), left);
            due("steps", x.of(0, 3), left + 1);
        }
        due("undo()", x.undo(), NONE);
        due("older ones are lost", x.of(0, 2), 1);
        settleAs(x, "21;p100");
        x.step(0, 0);
        x.walker(0, 1, 0);
        due("a new WALKER", x.undo(), NONE);
        x.step(0, 0);
        settleAs(x, "21;p100");
        due("an ISLE", x.undo(), NONE);
    }

    private static void seeds() {
        promise = 16;
        FootIsle x = new FootIsle();
        due("seed", x.seed(Integer.MAX_VALUE), 1);
        due("seed", x.seed(0), Integer.MAX_VALUE);
        due("seed(-1)", x.seed(-1), BAD);
        due("seed", x.seed(Integer.MIN_VALUE), BAD);
        x.drift(1);
        due("of 0 comes 12345", x.seed(Integer.MAX_VALUE), 12345);
        x.drift(1);
        due("31 bits", x.seed(1), (2147483647L * 1103515245L + 12345L) % 2147483648L);
        x.drift(2);
        due("two draws", x.seed(1), (1103527590L * 1103515245L + 12345L) % 2147483648L);
    }

    private static void aheads() {
        promise = 17;
        FootIsle x = isle("21;p933,p532");
        x.step(0, 3); // 9 at 3 2, wet
        x.step(1, 1); // 5 at 3 3, dry
        x.isle(2, 0);
        due("now", x.ahead(cell(3, 3), 0), 1);
        due("2 hours", x.ahead(cell(3, 3), 2), 1);
        due("3 hours", x.ahead(cell(3, 3), 3), NONE);
        due("8 hours", x.ahead(cell(3, 2), 8), 0);
        due("9 hours", x.ahead(cell(3, 2), 9), NONE);
        x.isle(4, 3);
        due("5 hours", x.ahead(cell(3, 2), 5), 0);
        due("the tide", x.ahead(cell(3, 2), 6), NONE);
        x.hours(1);
        due("4 hours", x.ahead(cell(3, 2), 4), 0);
        due("the tide", x.ahead(cell(3, 2), 5), NONE);
        due("48 hours", x.ahead(cell(3, 2), 48), NONE);
        due("ahead(0, 49)", x.ahead(0, 49), BAD);
        due("ahead(0, -1)", x.ahead(0, -1), BAD);
        due("ahead(64, 0)", x.ahead(64, 0), BAD);
        due("ahead(-1, 0)", x.ahead(-1, 0), BAD);
        due("nothing is changed", x.count(1), 1);
        due("nothing is changed", x.print(0, cell(3, 2)), 8);
    }

    private static void lands() {
        promise = 18;
        FootIsle x = isle("21;p933,p600");
        x.step(0, 3); // 9 at 3 2, wet
        walk(x, 0, "0"); // 9 at 4 2
        walk(x, 0, "1"); // 9 at 4 3, dry
        due("now", x.land(0, 0), 15);
        due("4 hours", x.land(0, 4), 15);
        due("5 hours", x.land(0, 5), 12);
        due("8 hours", x.land(0, 8), 12);
        due("9 hours", x.land(0, 9), 0);
        due("48 hours", x.land(0, 48), 0);
        due("land(1, 0)", x.land(1, 0), 0);
        due("land(0, 49)", x.land(0, 49), BAD);
        due("land(0, -1)", x.land(0, -1), BAD);
        due("land(2, 0)", x.land(2, 0), BAD);
        due("land(-1, 0)", x.land(-1, 0), BAD);
        due("nothing is changed", x.count(1), 0);
    }

    private static void lastings() {
        promise = 19;
        FootIsle x = isle("11;p933,p934,h964");
        x.step(0, 3); // 9 at 3 2, wet
        x.step(1, 0); // 9 at 4 4, dry
        due("on wet sand", x.lasts(0, cell(3, 1)), 9);
        due("alike from now on", x.lasts(0, cell(4, 3)), NOT);
        due("on dry sand", x.lasts(1, cell(4, 5)), 9);
        x.isle(1, 2);
        due("on dry sand", x.lasts(1, cell(4, 5)), 5);
        walk(x, 1, "02"); // 18 at 4 4, 9 at 5 4
        due("till the other's is deeper", x.lasts(1, cell(4, 3)), 9);
        due("not its own", x.lasts(0, cell(4, 4)), NOT);
        x.isle(1, 0);
        due("not in 48", x.lasts(1, cell(4, 5)), NONE);
        x.isle(1, 9);
        due("two hours of much wind", x.lasts(1, cell(4, 5)), 2);
        due("lasts(3, 0)", x.lasts(3, 0), BAD);
        due("lasts(-1, 0)", x.lasts(-1, 0), BAD);
        due("lasts(0, 64)", x.lasts(0, 64), BAD);
        due("lasts(0, -1)", x.lasts(0, -1), BAD);
        FootIsle y = isle("11;h930");
        for (int i = 0; i < 6; i++) {
            walk(y, 0, "13");
        }
        y.isle(4, 0);
        due("99 on wet sand", y.lasts(0, cell(3, 1)), NONE);
        for (int i = 0; i < 50; i++) {
            y.hours(1);
        }
        due("49 on wet sand", y.lasts(0, cell(3, 1)), NONE);
        y.hours(1);
        due("48 on wet sand", y.lasts(0, cell(3, 1)), 48);
    }

    private static void counties() {
        promise = 20;
        FootIsle x = isle("01;p122,p100");
        due("none", x.county(0), 0);
        walk(x, 0, "0011223"); // 3 2, 4 2, 4 3, 4 4, 3 4, 2 4, 2 3
        due("corners do not matter", x.county(0), 1);
        due("the other has none", x.county(1), 0);
        x.rake(cell(3, 2));
        due("a gap", x.county(0), 0);
        x.undo();
        walk(x, 0, "3");
        due("still one", x.county(0), 1);
        due("county(2)", x.county(2), BAD);
        due("county(-1)", x.county(-1), BAD);
        FootIsle y = isle("01;p100");
        walk(y, 0, "0011223"); // 1 0, 2 0, 2 1, 2 2, 1 2, 0 2, 0 1
        due("walked round, the isle's corner being its own rim", y.county(0), 1);
        y.rake(cell(1, 0));
        due("open to the rim", y.county(0), 0);
        FootIsle z = isle("01;p176");
        walk(z, 0, "322222221"); // row 5 from x 7 to x 0
        due("the rim is no wall", z.county(0), 0);
        FootIsle right = isle("01;p152");
        walk(right, 0, "00112233"); // round 6 3, by x 7
        due("by the rim", right.county(0), 1);
        FootIsle big = isle("01;p111");
        walk(big, 0, "00000" + "11111" + "22222" + "33333"); // round 4 by 4
        due("walked round", big.county(0), 16);
        big.rake(cell(1, 1));
        due("a corner lost", big.county(0), 16);
        FootIsle six = isle("01;p100,p110,p120,p130,p140,p155");
        walk(six, 5, "00112233"); // round 6 6, by x 7 and y 7
        due("of the sixth", six.county(5), 1);
    }

    private static void ways() {
        promise = 21;
        FootIsle x = isle("20;p903,p177");
        walk(x, 0, "0000000"); // row 3 but for x 0
        due("round by the open cell", x.way(1, cell(7, 0), cell(7, 7)), 0);
        walk(x, 0, "2222222"); // and x 0
        due("across", x.way(1, cell(7, 0), cell(7, 7)), 1);
        due("one's own", x.way(0, cell(7, 0), cell(7, 7)), 0);
        due("along", x.way(1, cell(0, 3), cell(7, 3)), 1);
        due("the first one does not count", x.way(1, cell(0, 3), cell(0, 7)), 0);
        due("the last one does", x.way(1, cell(0, 7), cell(0, 3)), 1);
        due("nowhere", x.way(1, cell(0, 3), cell(0, 3)), 0);
        x.isle(2, 1);
        due("three rows", x.way(1, cell(7, 0), cell(7, 7)), 3);
        FootIsle y = isle("21;p110,p177");
        y.step(0, 2); // 1 at 0 0
        due("to cell 0, held by another", y.way(1, 63, 0), 2);
        due("from cell 0", y.way(1, 0, 63), 1);
        due("to cell 0, one's own", y.way(0, 63, 0), 0);
        FootIsle z = isle("21;p133,p177");
        z.step(0, 0);
        due("now, though gone in an hour", z.way(1, 63, cell(4, 3)), 2);
        due("way(2, 0, 0)", x.way(2, 0, 0), BAD);
        due("way(-1, 0, 0)", x.way(-1, 0, 0), BAD);
        due("way(0, 64, 0)", x.way(0, 64, 0), BAD);
        due("way(0, -1, 0)", x.way(0, -1, 0), BAD);
        due("way(0, 0, 64)", x.way(0, 0, 64), BAD);
        due("way(0, 0, -1)", x.way(0, 0, -1), BAD);
    }

    private static void expectWalk(FootIsle x, int walker, int h, int most, String ways) {
        int n = ways.length();
        String call = "walk(" + walker + ", " + n + ", " + h + ", ";
        due(call + "-1)", x.walk(walker, n, h, -1), most);
        for (int k = 0; k < n; k++) {
            due(call + k + ")", x.walk(walker, n, h, k), ways.charAt(k) - '0');
        }
        due(call + n + ")", x.walk(walker, n, h, n), NONE);
        due(call + "max)", x.walk(walker, n, h, Integer.MAX_VALUE), NONE);
    }

    private static void walksOfOne() {
        promise = 22;
        FootIsle x = isle("21;p333");
        expectWalk(x, 0, 0, 0, "");
        expectWalk(x, 0, 0, 9, "0");
        expectWalk(x, 0, 0, 12, "00");
        expectWalk(x, 0, 0, 15, "000");
        expectWalk(x, 0, 0, 18, "0001");
        expectWalk(x, 0, 2, 9, "3");
        expectWalk(x, 0, 2, 12, "30");
        expectWalk(x, 0, 12, 0, "0000");
        due("nothing is changed", x.of(0, 2), cell(3, 3));
        due("nothing is changed", x.of(0, 3), 0);
        due("nothing is changed", x.count(9), 0);
        due("nothing is changed", x.count(7), 0);
        due("k below -1", x.walk(0, 1, 0, -2), BAD);
        due("n 5", x.walk(0, 5, 0, 0), BAD);
        due("n -1", x.walk(0, -1, 0, -1), BAD);
        due("h 13", x.walk(0, 1, 13, 0), BAD);
        due("h -1", x.walk(0, 1, -1, 0), BAD);
        due("walker 1", x.walk(1, 1, 0, 0), BAD);
        due("walker -1", x.walk(-1, 1, 0, 0), BAD);
        due("h 13, k beyond n", x.walk(0, 1, 13, 5), BAD);
        expectWalk(isle("21;p300"), 0, 0, 6, "0");
        expectWalk(isle("21;p370"), 0, 0, 6, "1");
        expectWalk(isle("21;p377"), 0, 0, 6, "2");
        expectWalk(isle("21;p931"), 0, 6, 9, "1");
        expectWalk(isle("21;p377"), 0, 0, 15, "2322");
        expectWalk(isle("21;p200,p377"), 1, 0, 15, "2322");
        expectWalk(isle("21;p200,p377"), 1, 0, 6, "2");
    }

    private static void walksOfKinds() {
        promise = 22;
        expectWalk(isle("21;o333"), 0, 0, 0, "0");
        expectWalk(isle("21;o333"), 0, 0, 9, "00");
        expectWalk(isle("21;o377"), 0, 0, 0, "2");
        FootIsle hopper = isle("21;o333");
        hopper.step(0, 0);
        expectWalk(hopper, 0, 0, 9, "0");
        expectWalk(isle("21;k133"), 0, 0, 12, "0");
        expectWalk(isle("21;k133"), 0, 1, 9, "3");
        expectWalk(isle("21;h133"), 0, 1, 9, "3");
        FootIsle shod = isle("21;s133,p177");
        expectWalk(shod, 0, 0, 0, "00");
        expectWalk(isle("21;s133"), 0, 0, 12, "00");
        // Another one's deeper prints make the way that gains most.
        FootIsle two = isle("21;p333,p963");
        two.step(1, 2);
        expectWalk(two, 0, 0, 9, "2");
    }

    private static void wells() {
        promise = 23;
        FootIsle x = isle("21;p333,p944");
        due("beside", x.well(0, cell(3, 3), 0), 1);
        due("two off", x.well(0, cell(5, 3), 0), 1);
        due("three off", x.well(0, cell(6, 3), 0), 2);
        due("the corner", x.well(0, 0, 0), 4);
        due("too far", x.well(0, 63, 0), NONE);
        due("from wet sand", x.well(0, cell(3, 3), 2), 1);
        due("twice on one cell", x.well(0, cell(4, 4), 2), 3);
        due("12 hours", x.well(0, cell(3, 3), 12), NONE);
        x.step(1, 2); // 9 at 3 4
        due("held by another, deeper", x.well(0, cell(3, 3), 0), NONE);
        due("its own", x.well(1, cell(3, 3), 0), 0);
        due("another walker's", x.well(1, cell(0, 4), 0), 2);
        due("onto cell 0 itself", isle("20;p301").well(0, 0, 0), 1);
        due("onto cell 0 itself", isle("20;p377,p303").well(1, 0, 0), 3);
        due("well(0, 0, 13)", x.well(0, 0, 13), BAD);
        due("well(0, 0, -1)", x.well(0, 0, -1), BAD);
        due("well(0, 64, 0)", x.well(0, 64, 0), BAD);
        due("well(0, -1, 0)", x.well(0, -1, 0), BAD);
        due("well(2, 0, 0)", x.well(2, 0, 0), BAD);
        due("well(-1, 0, 0)", x.well(-1, 0, 0), BAD);
        due("nothing is changed", x.of(0, 3), 0);
    }

    private static void crabCounts() {
        promise = 24;
        FootIsle x = isle("11;p933");
        x.step(0, 3); // 9 at 3 2
        int c = cell(3, 2);
        due("at once", x.crabs(0, c, 0, 100), 1000000);
        due("an hour", x.crabs(0, c, 1, 10), 900000);
        due("three hours, cut", x.crabs(0, c, 3, 37), 250047);
        due("four hours, cut", x.crabs(0, c, 4, 37), 157529);
        due("five hours, cut", x.crabs(0, c, 5, 37), 99243);
        due("no crabs", x.crabs(0, c, 8, 0), 1000000);
        due("gone without crabs", x.crabs(0, c, 9, 0), 0);
        due("gone at once", x.crabs(0, c, 1, 100), 0);
        due("no print", x.crabs(0, 0, 0, 0), 0);
        FootIsle y = isle("01;p133");
        y.step(0, 0);
        due("48 hours", y.crabs(0, cell(4, 3), 48, 0), 1000000);
        due("48 hours of many crabs", y.crabs(0, cell(4, 3), 48, 50), 0);
        due("n 49", x.crabs(0, c, 49, 0), BAD);
        due("n -1", x.crabs(0, c, -1, 0), BAD);
        due("c 101", x.crabs(0, c, 1, 101), BAD);
        due("c -1", x.crabs(0, c, 1, -1), BAD);
        due("cell 64", x.crabs(0, 64, 1, 1), BAD);
        due("cell -1", x.crabs(0, -1, 1, 1), BAD);
        due("walker 1", x.crabs(1, c, 1, 1), BAD);
        due("walker -1", x.crabs(-1, c, 1, 1), BAD);
    }

    private static void images() {
        promise = 25;
        FootIsle x = isle("21;k333");
        x.step(0, 0);
        x.seed(9);
        x.hours(1);
        x.isle(0, 4);
        x.type('2');
        x.sheet(0, 2, 5);
        due("image()", x.image(), 1);
        x.type('1');
        x.sheet(1, 1, 3);
        x.drop(0);
        settleAs(x, "x");
        settleAs(x, "33;o911,s922,p111");
        x.step(0, 0);
        x.step(1, 0);
        x.drift(9);
        for (int what = 0; what < 5; what++) {
            x.isle(what, 2);
        }
        x.type('3');
        promise = 26;
        due("restore()", x.restore(), 1);
        int[] want = {1, 1, 4, 2, 1, 6, 2, 2, 12, 2};
        for (int i = 0; i < want.length; i++) {
            due("count(" + i + ")", x.count(i), want[i]);
        }
        due("where", x.of(0, 2), cell(4, 3));
        due("steps", x.of(0, 3), 1);
        due("print", x.print(0, cell(4, 3)), 4);
        due("kind", x.of(0, 0), 3);
        due("weight", x.of(0, 1), 3);
        due("the draw", x.seed(2), 9);
        due("THE TAPE is as it is", x.type('3'), 2);
        due("SHEETS are as they are", x.drop(0), NULL);
        due("SHEETS are as they are", x.drop(1), 3);
        due("undo()", x.undo(), 1);
        due("print", x.print(0, cell(4, 3)), 6);
        due("undo()", x.undo(), 0);
        due("where", x.of(0, 2), cell(3, 3));
        due("steps", x.of(0, 3), 0);
        due("HOUR", x.count(1), 0);
        due("the draw", x.seed(6), 1);
        due("again", x.restore(), 1);
        due("what may be undone", x.count(7), 2);
        x.hours(1);
        x.image();
        x.hours(1);
        due("the latest IMAGE", x.restore(), 1);
        due("HOUR", x.count(1), 2);
    }

    private static void rakedCells() {
        promise = 27;
        FootIsle x = nine();
        due("nothing", x.raked(0, 2, 0, 0), NULL);
        x.sheet(0, 2, 3);
        x.item(0, 2, 1, 9);
        x.item(0, 2, 2, 5);
        due("one cell", x.raked(0, 2, 0, 0), 1);
        due("which", x.raked(0, 2, 0, 1), cell(3, 3));
        due("all cells without prints", x.raked(0, 2, 1, 0), 63);
        due("the least", x.raked(0, 2, 1, 1), 0);
        due("no cell", x.raked(0, 2, 2, 0), 0);
        due("none", x.raked(0, 2, 2, 1), NONE);
        due("item 3", x.raked(0, 2, 3, 0), INDEX);
        due("item -1", x.raked(0, 2, -1, 0), INDEX);
        due("item max", x.raked(0, 2, Integer.MAX_VALUE, 0), INDEX);
        due("lane 1", x.raked(0, 1, 7, 0), CAST);
        due("lane 4", x.raked(0, 4, 0, 0), BAD);
        due("lane -1", x.raked(0, -1, 0, 0), BAD);
        due("sheet 4", x.raked(4, 2, 0, 0), BAD);
        due("sheet -1", x.raked(-1, 2, 0, 0), BAD);
        due("what 2", x.raked(0, 2, 0, 2), BAD);
        due("what -1", x.raked(1, 2, 0, -1), BAD);
        x.item(0, 2, 0, 65);
        due("65", x.raked(0, 2, 0, 0), NOT);
        x.item(0, 2, 0, -1);
        due("-1", x.raked(0, 2, 0, 1), NOT);
        x.item(0, 2, 0, 64);
        due("64", x.raked(0, 2, 0, 0), 0);
        FootIsle y = isle("21;p323,p553");
        walk(y, 0, "0"); // 3 at 3 3
        walk(y, 1, "2"); // 5 at 4 3
        y.sheet(0, 0, 2);
        y.item(0, 0, 0, 9);
        due("by LAND of both", y.raked(0, 0, 0, 1), cell(4, 3));
        y.item(0, 0, 1, 9);
        due("by LAND of both", y.raked(0, 0, 0, 1), NONE);
        y.item(0, 0, 0, 3);
        due("by LAND of both", y.raked(0, 0, 0, 0), 62);
        due("two items are wanted", y.raked(0, 0, 1, 0), INDEX);
        due("nothing is changed", y.print(1, cell(4, 3)), 5);
        FootIsle z = isle("21;p123");
        z.step(0, 0); // 1 at 3 3, gone in an hour
        z.sheet(0, 0, 2);
        due("raked now", z.raked(0, 0, 0, 0), 1);
        z.item(0, 0, 1, 9);
        due("as all is now", z.raked(0, 0, 1, 0), 63);
        z.step(0, 0); // 1 at 4 3
        due("either of two", z.raked(0, 0, 1, 0), 2);
        due("the less", z.raked(0, 0, 1, 1), cell(3, 3));
    }

    private static void shoesTold() {
        promise = 28;
        FootIsle x = isle("21;p323,p353,p477");
        x.step(0, 0); // 3 at 3 3
        x.step(1, 2); // 3 at 4 3
        due("nothing", x.shoes(0, 0, 0, 1), NULL);
        x.sheet(0, 0, 16);
        due("cell 0, 0 deep", x.shoes(0, 0, 0, 1), 7);
        x.item(0, 0, 2, cell(3, 3));
        due("one without a print there", x.shoes(0, 0, 0, 2), 6);
        x.item(0, 0, 3, 3);
        due("one with", x.shoes(0, 0, 0, 2), 1);
        due("eight prints", x.shoes(0, 0, 0, 8), 1);
        x.item(0, 0, 4, cell(4, 3));
        x.item(0, 0, 5, 3);
        due("no one has both", x.shoes(0, 0, 2, 2), 0);
        due("n 0", x.shoes(0, 0, 0, 0), BAD);
        due("n 9", x.shoes(0, 0, 0, 9), BAD);
        due("sheet 4", x.shoes(4, 0, 0, 1), BAD);
        due("lane 4", x.shoes(0, 4, 0, 1), BAD);
        due("lane 1", x.shoes(0, 1, 99, 1), CAST);
        due("item 15", x.shoes(0, 0, 15, 1), INDEX);
        due("item 14", x.shoes(0, 0, 14, 1), 7);
        due("item -1", x.shoes(0, 0, -1, 1), INDEX);
        due("item 1, eight", x.shoes(0, 0, 1, 8), INDEX);
        int[][] wrong = {{64, 0}, {-1, 0}, {0, 100}, {0, -1}};
        for (int[] w : wrong) {
            x.item(0, 0, 14, w[0]);
            x.item(0, 0, 15, w[1]);
            due("not as told, though no one fits by then", x.shoes(0, 0, 2, 7), NOT);
        }
        x.item(0, 0, 14, 63);
        x.item(0, 0, 15, 99);
        due("as told", x.shoes(0, 0, 14, 1), 0);
        x.item(0, 0, 4, 64);
        due("the second cell", x.shoes(0, 0, 2, 2), NOT);
        due("it is not asked for", x.shoes(0, 0, 2, 1), 1);
        x.item(0, 0, 4, 0);
        x.item(0, 0, 5, 100);
        due("the second depth", x.shoes(0, 0, 2, 2), NOT);
        due("it is not asked for", x.shoes(0, 0, 2, 1), 1);
        FootIsle nobody = new FootIsle();
        nobody.sheet(0, 0, 2);
        due("of nobody", nobody.shoes(0, 0, 0, 1), 0);
        nobody.item(0, 0, 0, 64);
        due("of nobody, not as told", nobody.shoes(0, 0, 0, 1), NOT);
    }

    private static void films() {
        promise = 29;
        for (int lane = 0; lane < 4; lane++) {
            FootIsle x = nine(); // 9 behind one hour, 0 behind two
            due("nothing", x.film(0, 1, 0, lane, 0), NULL);
            x.sheet(0, lane, 6);
            for (int i = 0; i < 6; i++) {
                x.item(0, lane, i, 5);
            }
            due("beyond", x.film(0, 6, 0, lane, 1), INDEX);
            due("ahead of", x.film(0, 1, 0, lane, -1), INDEX);
            due("far beyond", x.film(0, 1, 0, lane, Integer.MAX_VALUE), INDEX);
            due("another lane", x.film(0, 1, 0, (lane + 1) % 4, 9), CAST);
            due("all", x.film(0, 3, 0, lane, 1), 3);
            int[] want = {0, 63, 1, 1, 0, 0};
            for (int i = 0; i < 6; i++) {
                due("item " + i, x.raked(0, lane, i, 0), want[i]);
            }
            due("n 0", x.film(0, 0, 0, lane, 0), BAD);
            due("n 25", x.film(0, 25, 0, lane, 0), BAD);
            due("walker 1", x.film(1, 1, 0, lane, 0), BAD);
            due("walker -1", x.film(-1, 1, 0, lane, 0), BAD);
            due("sheet 4", x.film(0, 1, 4, lane, 0), BAD);
            due("lane 4", x.film(0, 1, 0, 4, 0), BAD);
            due("nothing is changed", x.count(1), 0);
            x.sheet(1, lane, 24);
            due("24", x.film(0, 24, 1, lane, 0), 24);
        }
    }

    private static void sheets() {
        promise = 30;
        FootIsle x = nine();
        due("sheet(4, 0, 1)", x.sheet(4, 0, 1), BAD);
        due("sheet(-1, 0, 1)", x.sheet(-1, 0, 1), BAD);
        due("sheet(0, 4, 1)", x.sheet(0, 4, 1), BAD);
        due("sheet(0, -1, 1)", x.sheet(0, -1, 1), BAD);
        due("sheet(0, 0, 25)", x.sheet(0, 0, 25), BAD);
        due("sheet(0, 0, -1)", x.sheet(0, 0, -1), SIZE);
        due("sheet(4, 0, -1)", x.sheet(4, 0, -1), BAD);
        due("nothing yet", x.drop(0), NULL);
        due("sheet(3, 3, 24)", x.sheet(3, 3, 24), 24);
        due("item", x.item(3, 3, 23, 9), 1);
        due("sheet(3, 3, 24)", x.sheet(3, 3, 24), 24);
        due("a new row", x.raked(3, 3, 23, 0), 1);
        due("sheet(3, 0, 0)", x.sheet(3, 0, 0), 0);
        due("no items", x.item(3, 0, 0, 1), INDEX);
        promise = 31;
        due("drop(3)", x.drop(3), 0);
        due("drop(3)", x.drop(3), NULL);
        due("item of nothing", x.item(3, 0, 0, 1), NULL);
        x.sheet(0, 1, 7);
        due("drop(0)", x.drop(0), 7);
        due("drop(4)", x.drop(4), BAD);
        due("drop(-1)", x.drop(-1), BAD);
    }

    private static void items() {
        promise = 32;
        for (int lane = 0; lane < 4; lane++) {
            FootIsle x = nine();
            due("nothing", x.item(0, lane, 0, 1), NULL);
            x.sheet(0, lane, 2);
            due("item 2", x.item(0, lane, 2, 1), INDEX);
            due("item -1", x.item(0, lane, -1, 1), INDEX);
            due("another lane", x.item(0, (lane + 1) % 4, 5, 1), CAST);
            due("lane 4", x.item(0, 4, 0, 1), BAD);
            due("lane -1", x.item(0, -1, 0, 1), BAD);
            due("sheet 4", x.item(4, lane, 0, 1), BAD);
            due("sheet -1", x.item(-1, lane, 0, 1), BAD);
            for (int bits = 8; bits <= 32; bits *= 2) {
                due("item", x.item(0, lane, 1, (1L << bits) + 9), 1);
                due("its lowest bits, lane " + lane + ", " + bits, x.raked(0, lane, 1, 0), bits >= 8 << lane ? 63 : NOT);
            }
            due("item", x.item(0, lane, 1, (1L << (8 << lane) - 1)), 1);
            due("the highest bit is its sign", x.raked(0, lane, 1, 0), NOT);
            due("no other item", x.raked(0, lane, 0, 0), 1);
        }
    }

    private static void copies() {
        promise = 33;
        FootIsle x = nine();
        due("nothing to copy from", x.copy(0, 0, 1, 0, 0), NULL);
        x.sheet(0, 2, 4);
        due("nothing to copy to", x.copy(0, 0, 1, 0, 0), NULL);
        due("nothing to copy from", x.copy(1, 0, 0, 0, 0), NULL);
        x.sheet(1, 3, 4);
        due("unlike lanes", x.copy(0, 9, 1, 0, 1), CAST);
        due("from 4", x.copy(4, 0, 0, 0, 1), BAD);
        due("to 4", x.copy(0, 0, 4, 0, 1), BAD);
        due("from -1", x.copy(-1, 0, 0, 0, 1), BAD);
        due("to -1", x.copy(0, 0, -1, 0, 1), BAD);
        x.sheet(1, 2, 3);
        int[][] beyond = {{-1, 0, 1}, {0, -1, 1}, {0, 0, -1}, {0, 0, 4}, {2, 0, 3}, {0, 1, 3}, {5, 0, 0}, {0, 4, 0},
            {Integer.MAX_VALUE, 0, 1}, {0, Integer.MAX_VALUE, 1}, {0, 0, Integer.MAX_VALUE}, {1, 1, Integer.MAX_VALUE}};
        for (int[] b : beyond) {
            due("copy(0, " + b[0] + ", 1, " + b[1] + ", " + b[2] + ")", x.copy(0, b[0], 1, b[1], b[2]), INDEX);
        }
        due("none, at the ends", x.copy(0, 4, 1, 3, 0), 0);
        x.item(0, 2, 0, 9);
        x.item(0, 2, 2, 5);
        x.item(0, 2, 3, 5); // 9 0 5 5
        due("forwards", x.copy(0, 0, 0, 1, 3), 3); // 9 9 0 5
        expectItems(x, 0, 63, 63, 1, 0);
        due("backwards", x.copy(0, 1, 0, 0, 3), 3); // 9 0 5 5
        expectItems(x, 0, 63, 1, 0, 0);
        due("to another", x.copy(0, 0, 1, 1, 2), 2); // 0 9 0
        expectItems(x, 1, 1, 63, 1);
        expectItems(x, 0, 63, 1, 0, 0);
    }

    private static void expectItems(FootIsle x, int sheet, int... raked) {
        for (int i = 0; i < raked.length; i++) {
            due("item " + i + " of sheet " + sheet, x.raked(sheet, 2, i, 0), raked[i]);
        }
    }
}
