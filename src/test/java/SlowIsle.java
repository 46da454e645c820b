import java.util.ArrayDeque;
import java.util.ArrayList;
import java.util.Deque;
import java.util.HashSet;
import java.util.List;
import java.util.Set;

/**
 * The document once more, as slowly and plainly as can be: each hour is lived through, each claim looked for in its
 * square, each row of steps walked on a copy of all. It is what ModelTests hold FootIsle against.
 */
final class SlowIsle {
    static final int BAD = -1, NOT = -2, FULL = -3, NONE = -4, NULL = -11, CAST = -12, INDEX = -13, SIZE = -14;

    static final class Walker {
        int kind, weight, x, y, steps;
        int[][] print = new int[8][8]; // by y, x

        Walker copyOf() {
            Walker w = new Walker();
            w.kind = kind;
            w.weight = weight;
            w.x = x;
            w.y = y;
            w.steps = steps;
            for (int i = 0; i < 8; i++) {
                w.print[i] = print[i].clone();
            }
            return w;
        }
    }

    static final class World {
        int wet = 3, wind = 2, reach = 1, tide = 6, flood = 2, hour = 0;
        long draw = 1;
        List<Walker> walkers = new ArrayList<>();
        List<World> past = new ArrayList<>(); // the latest last; worlds without a past

        World copyOf(boolean withPast) {
            World w = new World();
            w.wet = wet;
            w.wind = wind;
            w.reach = reach;
            w.tide = tide;
            w.flood = flood;
            w.hour = hour;
            w.draw = draw;
            for (Walker each : walkers) {
                w.walkers.add(each.copyOf());
            }
            if (withPast) {
                for (World each : past) {
                    w.past.add(each.copyOf(false));
                }
            }
            return w;
        }

        void remember() {
            past.add(copyOf(false));
            if (past.size() > 8) {
                past.remove(0);
            }
        }

        int claim(int w, int x, int y) {
            int best = 0;
            for (int yy = 0; yy < 8; yy++) {
                for (int xx = 0; xx < 8; xx++) {
                    if (Math.abs(xx - x) <= reach && Math.abs(yy - y) <= reach) {
                        best = Math.max(best, walkers.get(w).print[yy][xx]);
                    }
                }
            }
            return best;
        }

        int held(int cell) {
            int best = 0;
            for (int w = 0; w < walkers.size(); w++) {
                best = Math.max(best, claim(w, cell % 8, cell / 8));
            }
            int who = NONE;
            int many = 0;
            for (int w = 0; w < walkers.size(); w++) {
                if (best > 0 && claim(w, cell % 8, cell / 8) == best) {
                    who = w;
                    many++;
                }
            }
            return many == 1 ? who : NONE;
        }

        int land(int w) {
            int n = 0;
            for (int c = 0; c < 64; c++) {
                n += held(c) == w ? 1 : 0;
            }
            return n;
        }

        int heldCells() {
            int n = 0;
            for (int c = 0; c < 64; c++) {
                n += held(c) >= 0 ? 1 : 0;
            }
            return n;
        }

        void anHour() {
            hour++;
            for (Walker w : walkers) {
                for (int y = 0; y < 8; y++) {
                    for (int x = 0; x < 8; x++) {
                        int loss = y < wet ? 1 : wind;
                        w.print[y][x] = Math.max(0, w.print[y][x] - loss);
                        if (hour % tide == 0 && y < flood) {
                            w.print[y][x] = 0;
                        }
                    }
                }
            }
        }

        int rakeCell(int cell) {
            int n = 0;
            for (Walker w : walkers) {
                if (w.print[cell / 8][cell % 8] > 0) {
                    n++;
                }
                w.print[cell / 8][cell % 8] = 0;
            }
            return n;
        }

        int depth(int w) {
            Walker it = walkers.get(w);
            int[] deep = {it.weight, it.weight, 2 * it.weight, 2 * it.weight, it.weight + 1};
            return deep[it.kind];
        }

        int shoes(int w) {
            return walkers.get(w).kind == 1 ? (w + 1) % walkers.size() : w;
        }

        /** False, and nothing is changed: beyond the isle. */
        boolean stepOn(int w, int way) {
            Walker it = walkers.get(w);
            int x = it.x + new int[] {1, 0, -1, 0}[way];
            int y = it.y + new int[] {0, 1, 0, -1}[way];
            if (x < 0 || x > 7 || y < 0 || y > 7) {
                return false;
            }
            int[][] print = walkers.get(shoes(w)).print;
            it.steps++;
            if (it.kind != 4 || it.steps % 2 == 0) {
                print[y][x] = Math.min(99, print[y][x] + depth(w));
                if (it.kind == 3) {
                    print[it.y][it.x] = Math.min(99, print[it.y][it.x] + depth(w));
                }
            }
            it.x = x;
            it.y = y;
            return true;
        }

        World behind(int n) {
            World w = copyOf(false);
            for (int i = 0; i < n; i++) {
                w.anHour();
            }
            return w;
        }
    }

    World world = new World();
    World image = null;
    String tape = "";
    int[] lanes = {-1, -1, -1, -1};
    long[][] rows = new long[4][];

    boolean has(int w) {
        return w >= 0 && w < world.walkers.size();
    }

    static boolean cell(int c) {
        return c >= 0 && c <= 63;
    }

    int walker(int kind, int weight, int cell) {
        if (kind < 0 || kind > 4 || weight < 1 || weight > 9 || !cell(cell)) return BAD;
        if (world.walkers.size() == 6) return FULL;
        Walker w = new Walker();
        w.kind = kind;
        w.weight = weight;
        w.x = cell % 8;
        w.y = cell / 8;
        world.walkers.add(w);
        world.past.clear();
        return world.walkers.size() - 1;
    }

    int of(int w, int what) {
        if (!has(w) || what < 0 || what > 6) return BAD;
        Walker it = world.walkers.get(w);
        if (what == 0) return it.kind;
        if (what == 1) return it.weight;
        if (what == 2) return 8 * it.y + it.x;
        if (what == 3) return it.steps;
        if (what == 4) return world.depth(w);
        return what == 5 ? world.shoes(w) : world.land(w);
    }

    int isle(int what, int v) {
        if (what < 0 || what > 4 || v < (what == 3 ? 2 : 0) || v > new int[] {8, 9, 3, 12, 8}[what]) return BAD;
        int was = count(what + 2);
        if (what == 0) world.wet = v;
        if (what == 1) world.wind = v;
        if (what == 2) world.reach = v;
        if (what == 3) world.tide = v;
        if (what == 4) world.flood = v;
        return was;
    }

    int print(int w, int c) {
        return has(w) && cell(c) ? world.walkers.get(w).print[c / 8][c % 8] : BAD;
    }

    int claim(int w, int c) {
        return has(w) && cell(c) ? world.claim(w, c % 8, c / 8) : BAD;
    }

    int held(int c) {
        return cell(c) ? world.held(c) : BAD;
    }

    int type(int letter) {
        if (letter < 32 || letter > 126) return BAD;
        if (tape.length() == 60) return FULL;
        tape += (char) letter;
        return tape.length();
    }

    /** By the letters that may stand at each place of the text, blanks taken out. */
    int settle() {
        String text = tape;
        tape = "";
        List<Integer> places = new ArrayList<>();
        for (int i = 0; i < text.length(); i++) {
            if (text.charAt(i) != ' ') places.add(i);
        }
        int want = places.size();
        for (int i = 0; ; i++) {
            boolean mayEnd = i >= 7 && i % 5 == 2;
            if (i == want) {
                if (mayEnd) break;
                return -20 - text.length();
            }
            char c = text.charAt(places.get(i));
            String may = i == 0 ? "0123456789" : i == 1 ? "0123" : i == 2 ? ";"
                : i % 5 == 3 ? "pshko" : i % 5 == 4 ? "123456789" : i % 5 == 2 ? (i == 32 ? "" : ",") : "01234567";
            if (may.indexOf(c) < 0) return -20 - places.get(i);
        }
        String plain = text.replace(" ", "");
        world.past.clear();
        world.walkers.clear();
        world.hour = 0;
        world.wind = plain.charAt(0) - '0';
        world.reach = plain.charAt(1) - '0';
        for (String each : plain.substring(3).split(",")) {
            walker("pshko".indexOf(each.charAt(0)), each.charAt(1) - '0', each.charAt(2) - '0' + 8 * (each.charAt(3) - '0'));
        }
        return world.walkers.size();
    }

    int count(int what) {
        int trodden = 0;
        for (int c = 0; c < 64; c++) {
            for (int w = 0; w < world.walkers.size(); w++) {
                if (print(w, c) > 0) {
                    trodden++;
                    break;
                }
            }
        }
        if (what < 0 || what > 9) return BAD;
        return new int[] {world.walkers.size(), world.hour, world.wet, world.wind, world.reach, world.tide, world.flood,
            world.past.size(), what == 8 ? world.heldCells() : 0, trodden}[what];
    }

    int step(int w, int way) {
        if (!has(w) || way < 0 || way > 3) return BAD;
        World was = world.copyOf(true);
        world.remember();
        if (!world.stepOn(w, way)) {
            world = was;
            return NOT;
        }
        return of(w, 2);
    }

    int hours(int n) {
        if (n < 1 || n > 24) return BAD;
        if (world.hour + n > 9999) return FULL;
        for (int i = 0; i < n; i++) {
            world.remember();
            world.anHour();
        }
        return world.heldCells();
    }

    int drift(int n) {
        if (n < 1 || n > 24) return BAD;
        if (world.hour + n > 9999) return FULL;
        int gone = 0;
        for (int i = 0; i < n; i++) {
            world.remember();
            world.anHour();
            world.draw = (world.draw * 1103515245L + 12345L) % (1L << 31);
            gone += world.rakeCell((int) (world.draw / 65536 % 64));
        }
        return gone;
    }

    int rake(int c) {
        if (!cell(c)) return BAD;
        world.remember();
        return world.rakeCell(c);
    }

    int undo() {
        if (world.past.isEmpty()) return NONE;
        World was = world.past.remove(world.past.size() - 1);
        world.walkers = was.copyOf(false).walkers;
        world.hour = was.hour;
        world.draw = was.draw;
        return world.past.size();
    }

    int seed(int v) {
        if (v < 0) return BAD;
        int was = (int) world.draw;
        world.draw = v;
        return was;
    }

    int ahead(int c, int n) {
        return cell(c) && n >= 0 && n <= 48 ? world.behind(n).held(c) : BAD;
    }

    int land(int w, int n) {
        return has(w) && n >= 0 && n <= 48 ? world.behind(n).land(w) : BAD;
    }

    int lasts(int w, int c) {
        if (!has(w) || !cell(c)) return BAD;
        if (world.held(c) != w) return NOT;
        World later = world.copyOf(false);
        for (int n = 1; n <= 48; n++) {
            later.anHour();
            if (later.held(c) != w) return n;
        }
        return NONE;
    }

    static List<Integer> beside(int c) {
        List<Integer> them = new ArrayList<>();
        if (c % 8 < 7) them.add(c + 1);
        if (c / 8 < 7) them.add(c + 8);
        if (c % 8 > 0) them.add(c - 1);
        if (c / 8 > 0) them.add(c - 8);
        return them;
    }

    int county(int w) {
        if (!has(w)) return BAD;
        int n = 0;
        for (int c = 0; c < 64; c++) {
            if (print(w, c) > 0) continue;
            Set<Integer> seen = new HashSet<>();
            Deque<Integer> todo = new ArrayDeque<>();
            seen.add(c);
            todo.add(c);
            boolean rim = false;
            while (!todo.isEmpty()) {
                int at = todo.poll();
                rim |= at % 8 == 0 || at % 8 == 7 || at / 8 == 0 || at / 8 == 7;
                for (int next : beside(at)) {
                    if (print(w, next) == 0 && seen.add(next)) todo.add(next);
                }
            }
            n += rim ? 0 : 1;
        }
        return n;
    }

    int way(int w, int from, int to) {
        if (!has(w) || !cell(from) || !cell(to)) return BAD;
        int[] cost = new int[64];
        java.util.Arrays.fill(cost, 1000);
        cost[from] = 0;
        int[] toll = new int[64];
        for (int c = 0; c < 64; c++) {
            int who = world.held(c);
            toll[c] = who >= 0 && who != w ? 1 : 0;
        }
        for (int round = 0; round < 64; round++) {
            for (int c = 0; c < 64; c++) {
                for (int next : beside(c)) {
                    cost[next] = Math.min(cost[next], cost[c] + toll[next]);
                }
            }
        }
        return cost[to];
    }

    /** All rows of n steps that stay on the isle, in order, each with the world behind h hours more. */
    private void tryAll(World at, int w, int n, int h, String done, List<String> rows, List<World> ends) {
        if (n == 0) {
            rows.add(done);
            ends.add(at.behind(h));
            return;
        }
        for (int way = 0; way < 4; way++) {
            World next = at.copyOf(false);
            if (next.stepOn(w, way)) tryAll(next, w, n - 1, h, done + way, rows, ends);
        }
    }

    int walk(int w, int n, int h, int k) {
        if (!has(w) || n < 0 || n > 4 || h < 0 || h > 12 || k < -1) return BAD;
        if (k >= n) return NONE;
        List<String> ways = new ArrayList<>();
        List<World> ends = new ArrayList<>();
        tryAll(world, w, n, h, "", ways, ends);
        int best = 0;
        int most = ends.get(0).land(w);
        for (int i = 1; i < ends.size(); i++) {
            int land = ends.get(i).land(w);
            if (land > most) {
                most = land;
                best = i;
            }
        }
        return k < 0 ? most : ways.get(best).charAt(k) - '0';
    }

    int well(int w, int c, int h) {
        if (!has(w) || !cell(c) || h < 0 || h > 12) return BAD;
        for (int n = 0; n <= 4; n++) {
            List<World> ends = new ArrayList<>();
            tryAll(world, w, n, h, "", new ArrayList<>(), ends);
            for (World end : ends) {
                if (end.held(c) == w) return n;
            }
        }
        return NONE;
    }

    int crabs(int w, int c, int n, int of100) {
        if (!has(w) || !cell(c) || n < 0 || n > 48 || of100 < 0 || of100 > 100) return BAD;
        if (world.behind(n).walkers.get(w).print[c / 8][c % 8] == 0) return 0;
        int many = 1000000;
        for (int i = 0; i < n; i++) many = many * (100 - of100) / 100;
        return many;
    }

    int image() {
        image = world.copyOf(true);
        return 1;
    }

    int restore() {
        if (image == null) return NONE;
        world = image.copyOf(true);
        return 1;
    }

    private int fault(int sheet, int lane, long i, long n) {
        if (sheet < 0 || sheet > 3 || lane < 0 || lane > 3) return BAD;
        if (rows[sheet] == null) return NULL;
        if (lanes[sheet] != lane) return CAST;
        return i < 0 || i + n > rows[sheet].length ? INDEX : 0;
    }

    int raked(int sheet, int lane, int i, int what) {
        if (what != 0 && what != 1) return BAD;
        int many = world.walkers.size();
        int fault = fault(sheet, lane, i, many);
        if (fault != 0) return fault;
        for (int w = 0; w < many; w++) {
            if (rows[sheet][i + w] < 0 || rows[sheet][i + w] > 64) return NOT;
        }
        List<Integer> found = new ArrayList<>();
        for (int c = 0; c < 64; c++) {
            World w = world.copyOf(false);
            w.rakeCell(c);
            boolean like = true;
            for (int k = 0; k < many; k++) like &= w.land(k) == rows[sheet][i + k];
            if (like) found.add(c);
        }
        if (what == 0) return found.size();
        return found.isEmpty() ? NONE : found.get(0);
    }

    int shoes(int sheet, int lane, int i, int n) {
        if (n < 1 || n > 8) return BAD;
        int fault = fault(sheet, lane, i, 2 * n);
        if (fault != 0) return fault;
        int set = 0;
        for (int w = 0; w < Math.max(1, world.walkers.size()); w++) {
            boolean like = true;
            for (int k = 0; k < n; k++) {
                long c = rows[sheet][i + 2 * k];
                long deep = rows[sheet][i + 2 * k + 1];
                if (c < 0 || c > 63 || deep < 0 || deep > 99) return NOT;
                like &= print(w, (int) c) == deep;
            }
            if (like && has(w)) set += 1 << w;
        }
        return set;
    }

    int film(int w, int n, int sheet, int lane, int i) {
        if (!has(w) || n < 1 || n > 24) return BAD;
        int fault = fault(sheet, lane, i, n);
        if (fault != 0) return fault;
        for (int k = 0; k < n; k++) rows[sheet][i + k] = land(w, k + 1);
        return n;
    }

    int sheet(int sheet, int lane, int n) {
        if (sheet < 0 || sheet > 3 || lane < 0 || lane > 3 || n > 24) return BAD;
        if (n < 0) return SIZE;
        lanes[sheet] = lane;
        rows[sheet] = new long[n];
        return n;
    }

    int drop(int sheet) {
        if (sheet < 0 || sheet > 3) return BAD;
        if (rows[sheet] == null) return NULL;
        int n = rows[sheet].length;
        rows[sheet] = null;
        return n;
    }

    int item(int sheet, int lane, int i, long v) {
        int fault = fault(sheet, lane, i, 1);
        if (fault != 0) return fault;
        int bits = 8 << lane;
        rows[sheet][i] = v << 64 - bits >> 64 - bits;
        return 1;
    }

    int copy(int from, int i, int to, int j, int n) {
        if (from < 0 || from > 3 || to < 0 || to > 3) return BAD;
        if (rows[from] == null || rows[to] == null) return NULL;
        if (lanes[from] != lanes[to]) return CAST;
        if (i < 0 || j < 0 || n < 0 || (long) i + n > rows[from].length || (long) j + n > rows[to].length) return INDEX;
        long[] taken = rows[from].clone();
        for (int k = 0; k < n; k++) rows[to][j + k] = taken[i + k];
        return n;
    }
}
