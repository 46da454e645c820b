/** What tests share: isles made by texts, rows of steps, and all that calls can tell of an object. */
class Sand {
    static final int BAD = -1, NOT = -2, FULL = -3, NONE = -4, NULL = -11, CAST = -12, INDEX = -13, SIZE = -14;
    static final int LEAST = Integer.MIN_VALUE, MOST = Integer.MAX_VALUE;
    static final int WET = 0, WIND = 1, REACH = 2, TIDE = 3, FLOOD = 4;

    /** What is tested now: it stands ahead of each answer that is not as due. */
    static String topic = "";

    /** A call, or some, on an object. */
    interface Deed {
        int on(FootIsle x);
    }

    /** Makes an object that is ready for a test. */
    interface Made {
        FootIsle anew();
    }

    static void due(String call, long got, long want) {
        Check.due(topic + ": " + call, got, want);
    }

    static int cell(int x, int y) {
        return 8 * y + x;
    }

    static void typeAll(FootIsle x, String text) {
        for (int i = 0; i < text.length(); i++) {
            x.type(text.charAt(i));
        }
    }

    static int settleAs(FootIsle x, String text) {
        typeAll(x, text);
        return x.settle();
    }

    static FootIsle isle(String text) {
        FootIsle x = new FootIsle();
        due("settle() of " + text, settleAs(x, text), (text.length() - 2) / 5);
        return x;
    }

    static void walk(FootIsle x, int walker, String ways) {
        for (int i = 0; i < ways.length(); i++) {
            x.step(walker, ways.charAt(i) - '0');
        }
    }

    /** Of one walker who holds 9 cells by a print 3 deep at 3 3: `raked` tells an item of 9 (63), of 0 (1), another one (0) apart. */
    static FootIsle nine() {
        FootIsle x = isle("21;p323");
        x.step(0, 0);
        return x;
    }

    /**
     * Prints alike now, 3 deep, of WALKER 0 at 3 2, wet, and of WALKER 1 at 3 3, dry: each holds 3 cells and nobody the 6 between,
     * as it is neither an hour on nor an hour ago. WALKER 2 holds 4 by a print at 0 7.
     */
    static FootIsle alikeNow() {
        FootIsle x = isle("21;p322,p323,p306");
        x.step(0, 0);
        x.step(1, 0);
        x.step(2, 1);
        return x;
    }

    /** Nine cells held, with something in each thing that a call could change. */
    static FootIsle busy() {
        FootIsle x = isle("01;p322");
        x.seed(77);
        x.step(0, 1); // 3 at 2 3
        x.drift(1);
        x.image();
        x.rake(cell(2, 3));
        x.isle(WET, 4);
        x.step(0, 0); // 3 at 3 3, wet now
        x.isle(WET, 3);
        typeAll(x, "21;p");
        x.sheet(0, 2, 4);
        x.item(0, 2, 1, 9);
        x.item(0, 2, 2, 5);
        x.item(0, 2, 3, -1);
        x.sheet(1, 2, 3);
        x.item(1, 2, 0, 9);
        x.sheet(2, 0, 2);
        return x;
    }

    /** All that calls tell of an object of at most two walkers; the object is spent then, by some 400 calls at most. */
    static String allOf(FootIsle x) {
        StringBuilder all = new StringBuilder();
        tellCounts(all, x);
        for (int w = 0; w < x.count(0); w++) {
            all.append(" walker");
            for (int what = 0; what < 7; what++) {
                all.append(' ').append(x.of(w, what));
            }
            for (int c = 0; c < 64; c++) {
                all.append(' ').append(x.print(w, c));
            }
        }
        if (x.count(0) == 1) {
            tellSheets(all, x);
        }
        all.append(" draw ").append(x.seed(0)).append(" undo");
        for (int i = 0; i < 9 && x.count(7) > 0; i++) {
            all.append(' ').append(x.undo()).append(' ').append(x.count(1)).append(' ').append(x.count(9));
            all.append(' ').append(x.of(0, 2)).append(' ').append(x.of(0, 3)).append(' ').append(x.seed(0));
        }
        all.append(" image ").append(x.restore());
        tellCounts(all, x);
        all.append(" tape ").append(x.type('1')).append(' ').append(x.settle());
        for (int s = 0; s < 4; s++) {
            all.append(" sheet ").append(x.drop(s));
        }
        return all.toString();
    }

    private static void tellCounts(StringBuilder all, FootIsle x) {
        for (int what = 0; what < 10; what++) {
            all.append(' ').append(x.count(what));
        }
    }

    private static void tellSheets(StringBuilder all, FootIsle x) {
        for (int s = 0; s < 4; s++) {
            for (int lane = 0; lane < 4; lane++) {
                int told = x.raked(s, lane, 0, 0);
                for (int i = 1; i <= 24 && told > NULL; i++) {
                    all.append(" item ").append(s).append(' ').append(lane).append(' ').append(told);
                    told = x.raked(s, lane, i, 0);
                }
            }
        }
    }

    /** A call that is refused: an object that took it tells the same as one that did not. */
    static void refused(String call, Made made, int want, Deed deed) {
        FootIsle x = made.anew();
        due(call, deed.on(x), want);
        sameAll(call + " leaves all", x, made.anew());
    }

    static void sameAll(String what, FootIsle x, FootIsle y) {
        String got = allOf(x);
        String want = allOf(y);
        if (!got.equals(want)) {
            System.out.println("  got " + got);
            System.out.println("  due " + want);
        }
        due(what, got.equals(want) ? 1 : 0, 1);
    }
}
