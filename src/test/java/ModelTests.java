import java.util.Random;

/** Long runs of calls by seeded draws: FootIsle must answer what SlowIsle answers. */
public final class ModelTests {
    private static final int RUNS = 150;
    /** Of 512 that the document allows, as many less as one more text can take. */
    private static final int CALLS = 512 - 64;

    private final Random random;
    private final int run;
    private FootIsle fast = new FootIsle();
    private SlowIsle slow = new SlowIsle();
    private int calls = 0;

    private ModelTests(int run) {
        this.run = run;
        this.random = new Random(20261118L + run);
    }

    public static void main(String[] args) {
        for (int run = 0; run < RUNS && !Check.anyWrong(); run++) {
            new ModelTests(run).go();
        }
        Check.end("ModelTests");
    }

    private void go() {
        if (run % 3 != 0) {
            typeIsle();
        }
        while (calls < CALLS && !Check.anyWrong()) {
            call();
        }
    }

    private void due(String call, int got, int want) {
        calls++;
        Check.due("run " + run + ", call " + calls + ": " + call, got, want);
    }

    /** Mostly a number that may stand, now and then one at or beyond an edge, or a wild one. */
    private int pick(int low, int high) {
        switch (random.nextInt(40)) {
            case 0:
                return low - 1;
            case 1:
                return high + 1;
            case 2:
                return new int[] {Integer.MIN_VALUE, Integer.MAX_VALUE, -1, -1000, 1000}[random.nextInt(5)];
            case 3:
                return low;
            case 4:
                return high;
            default:
                return low + random.nextInt(Math.max(1, high - low + 1));
        }
    }

    private int walker() {
        return pick(0, Math.max(0, slow.world.walkers.size() - 1));
    }

    private int cell() {
        if (slow.world.walkers.isEmpty() || random.nextInt(3) == 0) {
            return pick(0, 63);
        }
        SlowIsle.Walker near = slow.world.walkers.get(random.nextInt(slow.world.walkers.size()));
        int x = Math.min(7, Math.max(0, near.x + random.nextInt(5) - 2));
        int y = Math.min(7, Math.max(0, near.y + random.nextInt(5) - 2));
        return 8 * y + x;
    }

    private void call() {
        int draw = random.nextInt(200);
        if (draw < 90) {
            step();
        } else if (draw < 120) {
            ask(random.nextInt(7));
        } else if (draw < 140) {
            foretell(random.nextInt(12));
        } else if (draw < 160) {
            deed(random.nextInt(12));
        } else {
            sheets(random.nextInt(12));
        }
    }

    private void step() {
        int w = walker();
        int way = pick(0, 3);
        due("step(" + w + ", " + way + ")", fast.step(w, way), slow.step(w, way));
    }

    private void ask(int which) {
        int w = walker();
        int c = cell();
        int what = pick(0, 9);
        switch (which) {
            case 0:
                due("of(" + w + ", " + what + ")", fast.of(w, what), slow.of(w, what));
                break;
            case 1:
                due("print(" + w + ", " + c + ")", fast.print(w, c), slow.print(w, c));
                break;
            case 2:
                due("claim(" + w + ", " + c + ")", fast.claim(w, c), slow.claim(w, c));
                break;
            case 3:
                due("held(" + c + ")", fast.held(c), slow.held(c));
                break;
            case 4:
                due("county(" + w + ")", fast.county(w), slow.county(w));
                break;
            case 5:
                int to = pick(0, 63);
                due("way(" + w + ", " + c + ", " + to + ")", fast.way(w, c, to), slow.way(w, c, to));
                break;
            default:
                due("count(" + what + ")", fast.count(what), slow.count(what));
        }
    }

    private void foretell(int which) {
        int w = walker();
        int c = cell();
        int n = random.nextBoolean() ? pick(0, 8) : pick(0, 48);
        int h = random.nextBoolean() ? pick(0, 3) : pick(0, 12);
        if (which < 3) {
            due("ahead(" + c + ", " + n + ")", fast.ahead(c, n), slow.ahead(c, n));
        } else if (which < 5) {
            due("land(" + w + ", " + n + ")", fast.land(w, n), slow.land(w, n));
        } else if (which < 7) {
            due("lasts(" + w + ", " + c + ")", fast.lasts(w, c), slow.lasts(w, c));
        } else if (which < 8) {
            int s = random.nextInt(8) == 0 ? pick(0, 4) : pick(0, 2);
            int k = pick(-1, s);
            due("walk(" + w + ", " + s + ", " + h + ", " + k + ")", fast.walk(w, s, h, k), slow.walk(w, s, h, k));
        } else if (which < 9 && random.nextInt(3) == 0) {
            due("well(" + w + ", " + c + ", " + h + ")", fast.well(w, c, h), slow.well(w, c, h));
        } else {
            int of100 = pick(0, 100);
            due("crabs(" + w + ", " + c + ", " + n + ", " + of100 + ")", fast.crabs(w, c, n, of100), slow.crabs(w, c, n, of100));
        }
    }

    private void deed(int which) {
        int c = cell();
        if (which < 1) {
            int n = random.nextInt(4) == 0 ? pick(1, 24) : pick(1, 3);
            due("hours(" + n + ")", fast.hours(n), slow.hours(n));
        } else if (which < 2) {
            int n = random.nextInt(4) == 0 ? pick(1, 24) : pick(1, 3);
            due("drift(" + n + ")", fast.drift(n), slow.drift(n));
        } else if (which < 3) {
            due("rake(" + c + ")", fast.rake(c), slow.rake(c));
        } else if (which < 5) {
            due("undo()", fast.undo(), slow.undo());
        } else if (which < 6) {
            int v = random.nextInt();
            due("seed(" + v + ")", fast.seed(v), slow.seed(v));
        } else if (which < 8) {
            int what = pick(0, 4);
            int v = random.nextBoolean() ? pick(0, 3) : pick(0, 12);
            due("isle(" + what + ", " + v + ")", fast.isle(what, v), slow.isle(what, v));
        } else if (which < 9) {
            int kind = pick(0, 4);
            int weight = pick(1, 9);
            due("walker(" + kind + ", " + weight + ", " + c + ")", fast.walker(kind, weight, c), slow.walker(kind, weight, c));
        } else if (which < 10) {
            due("image()", fast.image(), slow.image());
        } else if (which < 11) {
            due("restore()", fast.restore(), slow.restore());
        } else if (random.nextInt(3) == 0) {
            typeIsle();
        }
    }

    /** A text of an isle, blanks here and there, now and then with a letter changed, lost or added. */
    private void typeIsle() {
        StringBuilder text = new StringBuilder();
        text.append(random.nextInt(3)).append(random.nextInt(4)).append(';');
        int many = 1 + random.nextInt(7);
        for (int w = 0; w < many; w++) {
            text.append(w == 0 ? "" : ",").append("pshko".charAt(random.nextInt(5))).append(1 + random.nextInt(9));
            text.append(random.nextInt(8)).append(random.nextInt(8));
        }
        for (int i = random.nextInt(12); i < 5; i++) {
            text.insert(random.nextInt(text.length() + 1), ' ');
        }
        if (random.nextInt(4) == 0) {
            int at = random.nextInt(text.length());
            switch (random.nextInt(3)) {
                case 0:
                    text.setCharAt(at, (char) (32 + random.nextInt(95)));
                    break;
                case 1:
                    text.setLength(at);
                    break;
                default:
                    text.insert(at, (char) (32 + random.nextInt(95)));
            }
        }
        for (int i = 0; i < text.length(); i++) {
            int letter = random.nextInt(200) == 0 ? pick(32, 126) : text.charAt(i);
            due("type(" + letter + ")", fast.type(letter), slow.type(letter));
        }
        due("settle() of '" + text + "'", fast.settle(), slow.settle());
    }

    private void sheets(int which) {
        int s = pick(0, 3);
        int lane = random.nextInt(6) > 0 && s >= 0 && s <= 3 ? slow.lanes[s] : pick(0, 3);
        int i = random.nextBoolean() ? 0 : pick(0, 24);
        if (which < 2) {
            int n = pick(0, 24);
            lane = pick(0, 3);
            due("sheet(" + s + ", " + lane + ", " + n + ")", fast.sheet(s, lane, n), slow.sheet(s, lane, n));
        } else if (which < 3) {
            if (random.nextInt(4) == 0) {
                due("drop(" + s + ")", fast.drop(s), slow.drop(s));
            }
        } else if (which < 4) {
            long v = random.nextBoolean() ? random.nextInt(100) : random.nextLong();
            item(s, lane, i, v);
        } else if (which < 6) {
            int to = random.nextBoolean() ? s : pick(0, 3);
            int j = pick(0, 24);
            int n = pick(0, 10);
            due("copy(" + s + ", " + i + ", " + to + ", " + j + ", " + n + ")", fast.copy(s, i, to, j, n), slow.copy(s, i, to, j, n));
        } else if (which < 7) {
            int w = walker();
            int n = pick(1, 24);
            due("film(" + w + ", " + n + ", " + s + ", " + lane + ", " + i + ")", fast.film(w, n, s, lane, i), slow.film(w, n, s, lane, i));
        } else if (which < 9) {
            tellShoes(s, lane, i);
        } else {
            tellLand(s, lane, i);
        }
    }

    private void item(int s, int lane, int i, long v) {
        due("item(" + s + ", " + lane + ", " + i + ", " + v + ")", fast.item(s, lane, i, v), slow.item(s, lane, i, v));
    }

    private void tellShoes(int s, int lane, int i) {
        int n = random.nextBoolean() ? 1 : pick(1, 8);
        if (random.nextInt(3) > 0 && !slow.world.walkers.isEmpty() && n <= 8) {
            int w = random.nextInt(slow.world.walkers.size());
            for (int k = 0; k < n; k++) {
                int c = random.nextInt(64);
                item(s, lane, i + 2 * k, c);
                item(s, lane, i + 2 * k + 1, slow.print(w, c));
            }
        }
        due("shoes(" + s + ", " + lane + ", " + i + ", " + n + ")", fast.shoes(s, lane, i, n), slow.shoes(s, lane, i, n));
    }

    private void tellLand(int s, int lane, int i) {
        int what = pick(0, 1);
        if (random.nextInt(3) > 0) {
            SlowIsle.World without = slow.world.copyOf(false);
            int c = cell();
            if (c >= 0 && c <= 63) {
                without.rakeCell(c);
            }
            for (int w = 0; w < without.walkers.size(); w++) {
                item(s, lane, i + w, without.land(w));
            }
        }
        due("raked(" + s + ", " + lane + ", " + i + ", " + what + ")", fast.raked(s, lane, i, what), slow.raked(s, lane, i, what));
    }
}
