import java.util.NoSuchElementException;
import java.util.Random;

/**
 * All small tiles, and runs of calls drawn by chance, each asked of OrnamentDesk and of a second desk that is
 * written straight from the document's words: cells in a plain array, and every SYMMETRY looked at over a whole
 * stretch of the plane. It shares no code and no short cut with the class under test.
 */
public final class ModelTest {
    private static int wrong = 0;
    private static long asked = 0;
    private static String lastText = "";

    public static void main(String[] args) {
        int runs = args.length > 0 ? Integer.parseInt(args[0]) : 260;
        int from = args.length > 1 ? Integer.parseInt(args[1]) : 1;
        allTiles(2, 6);
        allTiles(3, 4);
        for (int seed = from; seed < from + runs && wrong < 20; seed++) {
            run(seed);
        }
        System.out.println(asked + " answers compared, " + wrong + " not as due");
        if (wrong != 0) {
            System.exit(1);
        }
    }

    /** Each tile of so many colours and at most so many cells, on either net. */
    private static void allTiles(int colours, int mostCells) {
        for (int high = 1; high <= 8; high++) {
            for (int wide = 1; wide <= 8 && wide * high <= mostCells; wide++) {
                int tiles = 1;
                for (int cell = 0; cell < wide * high; cell++) {
                    tiles *= colours;
                }
                for (int number = 0; number < tiles && wrong < 20; number++) {
                    String rows = rowsOf(number, colours, wide, high);
                    askAll(rows);
                    askAll("hex;" + rows);
                }
            }
        }
    }

    private static String rowsOf(int number, int colours, int wide, int high) {
        StringBuilder rows = new StringBuilder();
        int left = number;
        for (int y = 0; y < high; y++) {
            for (int x = 0; x < wide; x++) {
                rows.append((char) ('a' + left % colours));
                left /= colours;
            }
            rows.append(';');
        }
        return rows.toString();
    }

    private static void askAll(String text) {
        int before = wrong;
        OrnamentDesk desk = new OrnamentDesk();
        Plain plain = new Plain();
        tellAll(desk, plain, text);
        same("read()", desk.read(), plain.read());
        for (int what = 0; what < 15; what++) {
            same("count(" + what + ")", desk.count(what), plain.count(what));
        }
        for (int what = 0; what < 3; what++) {
            same("step(false," + what + ")", stepOf(desk, false, what), plain.step(false, what));
            same("step(true," + what + ")", stepOf(desk, true, what), plain.step(true, what));
        }
        for (int t = 0; t < plain.turnings(); t++) {
            same("shifts(" + t + ",-1,0)", desk.shifts(t, -1, 0), plain.shifts(t, -1, 0));
            same("shifts(" + t + ",0,0)", desk.shifts(t, 0, 0), plain.shifts(t, 0, 0));
            same("shifts(" + t + ",0,1)", desk.shifts(t, 0, 1), plain.shifts(t, 0, 1));
            same("flip(" + t + ")", desk.flip(t), plain.flip(t));
            same("coloured(" + t + ",false)", desk.coloured(t, false), plain.coloured(t, false));
        }
        for (int m = 1; m <= 6; m++) {
            same("centre(" + m + ",-1,0)", desk.centre(m, -1, 0), plain.centre(m, -1, 0));
            same("centre(" + m + ",1,0)", desk.centre(m, 1, 0), plain.centre(m, 1, 0));
            same("centre(" + m + ",1,1)", desk.centre(m, 1, 1), plain.centre(m, 1, 1));
        }
        for (int y = 0; y < plain.high; y++) {
            for (int x = 0; x < plain.wide; x++) {
                same("kind(" + x + "," + y + ")", desk.kind(x, y), plain.kind(x, y));
                same("painted(" + x + "," + y + ",0)", desk.painted(x, y, 0), plain.painted(x, y, 0));
            }
        }
        for (int what = 0; what < 5; what++) {
            same("strip(" + what + ")", desk.strip(what), plain.strip(what));
        }
        same("nearest(1)", desk.nearest(1), plain.nearest(1));
        same("better()", desk.better(), plain.better());
        if (wrong != before) {
            System.out.println("   tile " + text);
        }
    }

    private static void run(int seed) {
        Random chance = new Random(seed);
        OrnamentDesk desk = new OrnamentDesk();
        Plain plain = new Plain();
        StringBuilder told = new StringBuilder();
        int calls = 512;
        boolean dear = seed % 8 == 0;
        for (int k = 0; k < calls && wrong < 20; k++) {
            int before = wrong;
            String call = ask(chance, desk, plain, dear, seed);
            told.append(call).append(' ');
            if (wrong != before) {
                String all = told.toString();
                System.out.println("   run " + seed + ", tile " + plain.show() + ", call " + call);
                System.out.println("   behind: " + all.substring(Math.max(0, all.length() - 600)));
                return;
            }
        }
    }

    private static String same(String call, long got, long due) {
        asked++;
        if (got != due) {
            wrong++;
            System.out.println(call + " answered " + got + ", due is " + due);
        }
        return call + "=" + due;
    }

    private static long bool(boolean b) {
        return b ? 1 : 0;
    }

    private static int near(Random chance, int low, int high) {
        return chance.nextInt(12) == 0
            ? new int[] {low - 1, high + 1, Integer.MIN_VALUE, Integer.MAX_VALUE, low - 7, high + 9}[chance.nextInt(6)]
            : low + chance.nextInt(high - low + 1);
    }

    private static String tellAll(OrnamentDesk desk, Plain plain, String text) {
        String last = "";
        byte[] bytes = text.getBytes(java.nio.charset.StandardCharsets.ISO_8859_1);
        for (int at = 0; at < bytes.length; at += 8) {
            long eight = 0;
            for (int k = 0; k < 8; k++) {
                eight = eight << 8 | (at + k < bytes.length ? bytes[at + k] & 255 : 0);
            }
            last = same("tell(" + eight + ")", desk.tell(eight), plain.tell(eight));
        }
        return "tellAll<" + text + ">" + last;
    }

    /** A tile that a few TURNINGS and SHIFTS drawn by chance leave as it is. */
    private static String wildText(Random chance, int most) {
        int n = 1 + chance.nextInt(most);
        boolean hex = chance.nextBoolean();
        int[] up = new int[n * n];
        for (int i = 0; i < up.length; i++) {
            up[i] = i;
        }
        int makers = 1 + chance.nextInt(3);
        for (int k = 0; k < makers; k++) {
            int t = k == 0 && chance.nextBoolean() ? 0 : chance.nextInt(hex ? 12 : 8);
            int sx = chance.nextBoolean() ? n / 2 : chance.nextInt(n);
            int sy = chance.nextBoolean() ? n / 2 : chance.nextInt(n);
            for (int i = 0; i < up.length; i++) {
                int[] to = Plain.go(hex, t, i % n, i / n);
                Plain.join(up, i, Plain.mod(to[1] + sy, n) * n + Plain.mod(to[0] + sx, n));
            }
        }
        int colours = 2 + chance.nextInt(3);
        int[] drawn = new int[n * n];
        StringBuilder text = new StringBuilder(hex ? "hex;" : "");
        for (int i = 0; i < up.length; i++) {
            drawn[i] = chance.nextInt(colours);
            text.append((char) ('a' + drawn[Plain.root(up, i)]));
            if (i % n == n - 1) {
                text.append(';');
            }
        }
        return text.toString();
    }

    private static String goodText(Random chance, int most) {
        if (chance.nextInt(3) == 0) {
            return wildText(chance, most);
        }
        int wide = 1 + chance.nextInt(most);
        int high = 1 + chance.nextInt(most);
        int px = 1 + chance.nextInt(wide);
        int py = 1 + chance.nextInt(high);
        int skew = chance.nextInt(wide);
        int colours = 1 + chance.nextInt(4);
        int style = chance.nextInt(7);
        int[][] motif = new int[8][8];
        for (int[] row : motif) {
            for (int x = 0; x < 8; x++) {
                row[x] = chance.nextInt(colours);
            }
        }
        StringBuilder text = new StringBuilder();
        int netAt = chance.nextInt(high + 1);
        for (int y = 0; y < high; y++) {
            if (y == netAt) {
                text.append(chance.nextBoolean() ? "hex;" : chance.nextBoolean() ? "square ;" : "");
            }
            for (int x = 0; x < wide; x++) {
                int colour;
                switch (style) {
                    case 0: colour = motif[y % py][(x + skew * (y / py)) % px]; break;
                    case 1: colour = motif[Math.min(y, high - y) % 8][Math.min(x, wide - x) % 8]; break;
                    case 2: colour = motif[0][(x + y * skew) % px]; break;
                    case 3: colour = motif[0][Math.floorMod(x - y, Math.max(1, Math.min(px, py)))]; break;
                    case 4: colour = (x + y) % 2 == 0 ? motif[0][0] : motif[0][1]; break;
                    case 5: colour = motif[y][Math.min(x, wide - 1 - x)]; break;
                    default: colour = motif[y][x];
                }
                text.append((char) ('a' + colour));
            }
            text.append(chance.nextInt(4) == 0 ? " ;\n" : ";");
        }
        return text.toString();
    }

    private static String anyText(Random chance, int most) {
        StringBuilder text = new StringBuilder(goodText(chance, most));
        if (chance.nextInt(3) != 0) {
            return text.toString();
        }
        String[] bits = {"hex;", "square;", "abcd;", "a", ";", " ", "\n", "x", "abcdabcda;", "1", "hexa;", "\u00e9",
            "d;d;d;d;d;d;", "hex square;", "squar;", "A", "ab;", "abe;", "ab 1;"};
        int changes = 1 + chance.nextInt(2);
        for (int k = 0; k < changes; k++) {
            int at = chance.nextInt(text.length() + 1);
            if (chance.nextInt(3) == 0 && at < text.length()) {
                text.deleteCharAt(at);
            } else {
                text.insert(at, bits[chance.nextInt(bits.length)]);
            }
        }
        return text.toString();
    }

    private static String ask(Random chance, OrnamentDesk desk, Plain plain, boolean dear, int seed) {
        int a;
        int b;
        int c;
        int d;
        switch (chance.nextInt(34)) {
            case 0:
                if (chance.nextInt(4) == 0) {
                    String text = anyText(chance, 8);
                    return tellAll(desk, plain, text);
                }
                if (chance.nextInt(6) == 0) {
                    long eight = chance.nextInt(3) == 0 ? chance.nextLong() : 0L;
                    return same("tell(" + eight + ")", desk.tell(eight), plain.tell(eight));
                }
                lastText = tellAll(desk, plain, anyText(chance, dear ? 6 : 8));
                return lastText + same("read()", desk.read(), plain.read());
            case 1:
                if (chance.nextInt(3) != 0) {
                    return "";
                }
                return same("read()", desk.read(), plain.read());
            case 2:
                return same("fault(true)", desk.fault(true), plain.fault(true))
                    + same("fault(false)", desk.fault(false), plain.fault(false));
            case 3:
                if (chance.nextInt(3) != 0) {
                    return "";
                }
                a = near(chance, 0, plain.wide - 1); b = near(chance, 0, plain.high - 1); c = near(chance, 0, 3);
                return same("paint(" + a + "," + b + "," + c + ")", bool(desk.paint(a, b, c)), bool(plain.paint(a, b, c)));
            case 4:
                a = near(chance, -100, 100); b = near(chance, -100, 100);
                if (chance.nextBoolean()) {
                    a = a % 9; b = b % 9;
                }
                return same("shift(" + a + "," + b + ")", bool(desk.shift(a, b)), bool(plain.shift(a, b)));
            case 5:
                a = near(chance, 0, 11);
                return same("turn(" + a + ")", bool(desk.turn(a)), bool(plain.turn(a)));
            case 6:
                a = near(chance, 0, 3); b = near(chance, 0, 3);
                return same("dye(" + a + "," + b + ")", bool(desk.dye(a, b)), bool(plain.dye(a, b)));
            case 7:
                if (chance.nextInt(3) != 0) {
                    return "";
                }
                boolean hex = chance.nextBoolean();
                return same("net(" + hex + ")", bool(desk.net(hex)), bool(plain.net(hex)));
            case 8:
            case 9:
                a = near(chance, 0, 16); b = near(chance, 1, dear ? 6 : 8); c = near(chance, 1, 4); d = chance.nextInt();
                return same("make(" + a + "," + b + "," + c + "," + d + ")", desk.make(a, b, c, d), plain.make(a, b, c, d));
            case 10:
                a = near(chance, 0, 16);
                if (chance.nextBoolean()) {
                    return "";
                }
                return same("mend(" + a + ")", desk.mend(a), plain.mend(a));
            case 11:
                return same("reduce()", desk.reduce(), plain.reduce());
            case 12:
                return same("undo()", desk.undo(), plain.undo());
            case 13:
            case 14:
            case 15:
                a = near(chance, 0, 24);
                return same("count(" + a + ")", desk.count(a), plain.count(a));
            case 16:
                a = near(chance, -9, 20); b = near(chance, -9, 20);
                return same("cell(" + a + "," + b + ")", desk.cell(a, b), plain.cell(a, b));
            case 17:
                boolean second = chance.nextBoolean();
                a = near(chance, 0, 2);
                return same("step(" + second + "," + a + ")", stepOf(desk, second, a), plain.step(second, a));
            case 18:
                a = near(chance, 0, 11); b = chance.nextInt(3) == 0 ? -1 : near(chance, -1, 8); c = near(chance, 0, 1);
                return same("shifts(" + a + "," + b + "," + c + ")", desk.shifts(a, b, c), plain.shifts(a, b, c));
            case 19:
                a = near(chance, 0, 11);
                return same("flip(" + a + ")", desk.flip(a), plain.flip(a));
            case 20:
            case 21:
                a = near(chance, 1, 6); b = chance.nextInt(3) == 0 ? -1 : near(chance, -1, 30); c = near(chance, 0, 1);
                return same("centre(" + a + "," + b + "," + c + ")", desk.centre(a, b, c), plain.centre(a, b, c));
            case 22:
                a = near(chance, -9, 20); b = near(chance, -9, 20);
                return same("kind(" + a + "," + b + ")", desk.kind(a, b), plain.kind(a, b));
            case 23:
                a = near(chance, 0, 4);
                return same("strip(" + a + ")", desk.strip(a), plain.strip(a));
            case 24:
                a = near(chance, 0, 11);
                boolean own = chance.nextBoolean();
                return same("coloured(" + a + "," + own + ")", desk.coloured(a, own), plain.coloured(a, own));
            case 25:
                a = near(chance, 0, 2);
                return same("like(" + a + ")", desk.like(a), plain.like(a));
            case 26:
                a = near(chance, 0, 16);
                return same("flaws(" + a + ")", desk.flaws(a), plain.flaws(a));
            case 27:
                a = near(chance, 0, 16); b = near(chance, 0, plain.wide - 1); c = near(chance, 0, plain.high - 1);
                boolean first = chance.nextBoolean();
                return same("orbit(" + a + "," + b + "," + c + "," + first + ")", desk.orbit(a, b, c, first),
                    plain.orbit(a, b, c, first));
            case 28:
                a = near(chance, -1, 40);
                return same("nearest(" + a + ")", desk.nearest(a), plain.nearest(a));
            case 29:
                a = near(chance, 0, plain.wide - 1); b = near(chance, 0, plain.high - 1); c = near(chance, 0, 3);
                return same("painted(" + a + "," + b + "," + c + ")", desk.painted(a, b, c), plain.painted(a, b, c));
            case 30:
                if (!dear && plain.wide * plain.high <= 36 && chance.nextInt(6) != 0) {
                    return "";
                }
                return same("better()", desk.better(), plain.better());
            case 31:
                a = near(chance, 0, 2);
                return same("image(" + a + ")", bool(desk.image(a)), bool(plain.image(a)));
            case 32:
                a = near(chance, 0, 2);
                if (chance.nextInt(3) != 0) {
                    return "";
                }
                return same("again(" + a + ")", bool(desk.again(a)), bool(plain.again(a)));
            default:
                return same("count(6)", desk.count(6), plain.count(6)) + same("count(10)", desk.count(10), plain.count(10));
        }
    }

    private static long stepOf(OrnamentDesk desk, boolean second, int what) {
        try {
            return desk.step(second, what);
        } catch (NoSuchElementException none) {
            return Plain.THROWN;
        }
    }

    /** The second desk. */
    private static final class Plain {
        static final long THROWN = Long.MIN_VALUE;

        int wide = 4;
        int high = 4;
        boolean hex = false;
        int[][] colour = new int[4][4];
        String text = "";
        int fault = 0;
        int place = -1;
        java.util.ArrayList<Object[]> past = new java.util.ArrayList<>();
        Object[][] images = new Object[3][];

        String show() {
            StringBuilder all = new StringBuilder(hex ? "hex;" : "square;");
            for (int[] row : colour) {
                for (int c : row) {
                    all.append((char) ('a' + c));
                }
                all.append(';');
            }
            return all.toString();
        }

        static int mod(int a, int b) {
            return ((a % b) + b) % b;
        }

        int turnings() {
            return hex ? 12 : 8;
        }

        int turns() {
            return hex ? 6 : 4;
        }

        int[] go(int t, int x, int y) {
            return go(hex, t, x, y);
        }

        static int[] go(boolean hex, int t, int x, int y) {
            if (!hex) {
                switch (t) {
                    case 0: return new int[] {x, y};
                    case 1: return new int[] {-y, x};
                    case 2: return new int[] {-x, -y};
                    case 3: return new int[] {y, -x};
                    case 4: return new int[] {x, -y};
                    case 5: return new int[] {-x, y};
                    case 6: return new int[] {y, x};
                    default: return new int[] {-y, -x};
                }
            }
            switch (t) {
                case 0: return new int[] {x, y};
                case 1: return new int[] {-y, x + y};
                case 2: return new int[] {-x - y, x};
                case 3: return new int[] {-x, -y};
                case 4: return new int[] {y, -x - y};
                case 5: return new int[] {x + y, -x};
                case 6: return new int[] {y, x};
                case 7: return new int[] {-y, -x};
                case 8: return new int[] {x + y, -y};
                case 9: return new int[] {-x - y, y};
                case 10: return new int[] {x, -x - y};
                default: return new int[] {-x, x + y};
            }
        }

        int at(int x, int y) {
            return colour[mod(y, high)][mod(x, wide)];
        }

        /** A stretch of the plane behind which all begins anew, whatever the TURNING. */
        int stretch() {
            int s = wide;
            while (s % high != 0) {
                s += wide;
            }
            return s;
        }

        boolean symmetry(int t, int sx, int sy) {
            int stretch = stretch();
            for (int y = 0; y < stretch; y++) {
                for (int x = 0; x < stretch; x++) {
                    int[] to = go(t, x, y);
                    if (at(x, y) != at(to[0] + sx, to[1] + sy)) {
                        return false;
                    }
                }
            }
            return true;
        }

        boolean[][][] table = null;
        String tableOf = null;

        boolean[][][] shiftTable() {
            String me = show();
            if (me.equals(tableOf)) {
                return table;
            }
            table = new boolean[turnings()][high][wide];
            for (int t = 0; t < turnings(); t++) {
                for (int y = 0; y < high; y++) {
                    for (int x = 0; x < wide; x++) {
                        table[t][y][x] = symmetry(t, x, y);
                    }
                }
            }
            tableOf = me;
            return table;
        }

        boolean holds(int t, int sx, int sy) {
            return shiftTable()[t][mod(sy, high)][mod(sx, wide)];
        }

        int howMany(int t) {
            int n = 0;
            for (boolean[] row : shiftTable()[t]) {
                for (boolean b : row) {
                    n += b ? 1 : 0;
                }
            }
            return n;
        }

        int longOf(int x, int y) {
            return hex ? x * x + x * y + y * y : x * x + y * y;
        }

        boolean ahead(int[] p, int[] q) {
            if (longOf(p[0], p[1]) != longOf(q[0], q[1])) {
                return longOf(p[0], p[1]) < longOf(q[0], q[1]);
            }
            return p[0] != q[0] ? p[0] > q[0] : p[1] > q[1];
        }

        int[] best(int[] first) {
            int[] best = null;
            for (int y = -24; y <= 24; y++) {
                for (int x = -24; x <= 24; x++) {
                    if ((x == 0 && y == 0) || !holds(0, x, y)) {
                        continue;
                    }
                    if (first != null && x * first[1] == y * first[0]) {
                        continue;
                    }
                    int[] me = {x, y};
                    if (best == null || ahead(me, best)) {
                        best = me;
                    }
                }
            }
            return best;
        }

        int order() {
            int n = 0;
            for (int t = 0; t < turns(); t++) {
                n += howMany(t) > 0 ? 1 : 0;
            }
            return n;
        }

        boolean mirror(int f) {
            for (int y = -64; y <= 64; y++) {
                for (int x = -64; x <= 64; x++) {
                    int[] to = go(f, x, y);
                    if (to[0] + x == 0 && to[1] + y == 0 && holds(f, x, y)) {
                        return true;
                    }
                }
            }
            return false;
        }

        boolean parted(int f) {
            for (int y = 0; y <= high; y++) {
                for (int x = 0; x <= wide; x++) {
                    if (holds(0, x, y) && !sumOfTwo(f, x, y)) {
                        return false;
                    }
                }
            }
            return true;
        }

        boolean sumOfTwo(int f, int x, int y) {
            for (int v = -20; v <= 20; v++) {
                for (int u = -20; u <= 20; u++) {
                    int[] stays = go(f, u, v);
                    int[] other = go(f, x - u, y - v);
                    if (stays[0] == u && stays[1] == v && other[0] == u - x && other[1] == v - y
                        && holds(0, u, v) && holds(0, x - u, y - v)) {
                        return true;
                    }
                }
            }
            return false;
        }

        int cls() {
            java.util.ArrayList<Integer> flips = new java.util.ArrayList<>();
            for (int t = turns(); t < turnings(); t++) {
                if (howMany(t) > 0) {
                    flips.add(t);
                }
            }
            int order = order();
            int mirrors = 0;
            for (int f : flips) {
                mirrors += mirror(f) ? 1 : 0;
            }
            if (order == 1) {
                return flips.isEmpty() ? 0 : !parted(flips.get(0)) ? 4 : mirrors == 1 ? 2 : 3;
            }
            if (order == 2) {
                if (!flips.isEmpty() && (flips.size() != 2 || parted(flips.get(0)) != parted(flips.get(1)))) {
                    throw new IllegalStateException("order 2");
                }
                return flips.isEmpty() ? 1 : !parted(flips.get(0)) ? 8 : mirrors == 2 ? 5 : mirrors == 1 ? 6 : 7;
            }
            int[] first = best(null);
            if (order == 4) {
                if (flips.isEmpty()) {
                    return 9;
                }
                for (int f : flips) {
                    if (java.util.Arrays.equals(go(f, first[0], first[1]), first)) {
                        return mirror(f) ? 10 : 11;
                    }
                }
                throw new IllegalStateException("no FLIP leaves FIRST");
            }
            if (order == 3) {
                if (flips.isEmpty()) {
                    return 12;
                }
                for (int f : flips) {
                    for (int y = -24; y <= 24; y++) {
                        for (int x = -24; x <= 24; x++) {
                            int[] to = go(f, x, y);
                            if (to[0] == -x && to[1] == -y && longOf(x, y) == longOf(first[0], first[1]) && holds(0, x, y)) {
                                return 13;
                            }
                        }
                    }
                }
                return 14;
            }
            if (order != 6) {
                throw new IllegalStateException("order " + order);
            }
            return flips.isEmpty() ? 15 : 16;
        }

        static int root(int[] up, int i) {
            while (up[i] != i) {
                i = up[i];
            }
            return i;
        }

        static void join(int[] up, int i, int j) {
            int a = root(up, i);
            int b = root(up, j);
            up[Math.max(a, b)] = Math.min(a, b);
        }

        int[] kinds() {
            int[] up = new int[wide * high];
            for (int i = 0; i < up.length; i++) {
                up[i] = i;
            }
            int stretch = stretch();
            for (int t = 0; t < turnings(); t++) {
                for (int sy = 0; sy < high; sy++) {
                    for (int sx = 0; sx < wide; sx++) {
                        if (!holds(t, sx, sy)) {
                            continue;
                        }
                        for (int y = 0; y < stretch; y++) {
                            for (int x = 0; x < stretch; x++) {
                                int[] to = go(t, x, y);
                                join(up, mod(y, high) * wide + mod(x, wide),
                                    mod(to[1] + sy, high) * wide + mod(to[0] + sx, wide));
                            }
                        }
                    }
                }
            }
            return numbered(up);
        }

        static int[] numbered(int[] up) {
            int[] number = new int[up.length];
            int next = 0;
            for (int i = 0; i < up.length; i++) {
                number[i] = root(up, i) == i ? next++ : number[root(up, i)];
            }
            return number;
        }

        static int howManyKinds(int[] number) {
            int most = -1;
            for (int n : number) {
                most = Math.max(most, n);
            }
            return most + 1;
        }

        Object[] keepTile() {
            int[][] copy = new int[high][];
            for (int y = 0; y < high; y++) {
                copy[y] = colour[y].clone();
            }
            return new Object[] {wide, high, hex, copy};
        }

        void giveTile(Object[] o) {
            wide = (Integer) o[0];
            high = (Integer) o[1];
            hex = (Boolean) o[2];
            int[][] copy = (int[][]) o[3];
            colour = new int[high][];
            for (int y = 0; y < high; y++) {
                colour[y] = copy[y].clone();
            }
        }

        void act(Object[] before) {
            past.add(before);
            if (past.size() > 8) {
                past.remove(0);
            }
        }

        int tell(long eight) {
            StringBuilder more = new StringBuilder();
            for (int k = 56; k >= 0; k -= 8) {
                int b = (int) (eight >>> k & 255);
                if (b == 0) {
                    break;
                }
                more.append((char) b);
            }
            if (text.length() + more.length() > 200) {
                return -1;
            }
            text += more;
            return text.length();
        }

        int read() {
            String told = text;
            text = "";
            fault = 0;
            place = -1;
            java.util.ArrayList<String> rows = new java.util.ArrayList<>();
            java.util.ArrayList<Integer> places = new java.util.ArrayList<>();
            boolean toldHex = false;
            int at = 0;
            boolean word = true;
            while (true) {
                while (at < told.length() && (told.charAt(at) == ' ' || told.charAt(at) == '\n')) {
                    at++;
                }
                if (at == told.length()) {
                    if (!word || rows.isEmpty()) {
                        return faulty(1, at);
                    }
                    break;
                }
                java.util.regex.Matcher m = java.util.regex.Pattern.compile("[a-z]+|;").matcher(told);
                m.region(at, told.length());
                if (!m.lookingAt()) {
                    return faulty(1, at);
                }
                String token = m.group();
                if (word) {
                    if (token.equals("hex")) {
                        toldHex = true;
                    } else if (token.equals("square")) {
                        toldHex = false;
                    } else if (token.matches("[a-d]{1,8}")) {
                        rows.add(token);
                        places.add(at);
                    } else {
                        return faulty(1, at);
                    }
                } else if (!token.equals(";")) {
                    return faulty(1, at);
                }
                word = !word;
                at = m.end();
            }
            for (int r = 0; r < rows.size(); r++) {
                if (r == 8) {
                    return faulty(3, places.get(r));
                }
                if (rows.get(r).length() != rows.get(0).length()) {
                    return faulty(2, places.get(r));
                }
            }
            hex = toldHex;
            high = rows.size();
            wide = rows.get(0).length();
            colour = new int[high][wide];
            for (int y = 0; y < high; y++) {
                for (int x = 0; x < wide; x++) {
                    colour[y][x] = rows.get(y).charAt(x) - 'a';
                }
            }
            past.clear();
            return wide * high;
        }

        int faulty(int number, int where) {
            fault = number;
            place = where;
            return -1;
        }

        int fault(boolean where) {
            return where ? place : fault;
        }

        boolean has(int x, int y) {
            return x >= 0 && y >= 0 && x < wide && y < high;
        }

        boolean paint(int x, int y, int c) {
            if (!has(x, y) || c < 0 || c > 3 || colour[y][x] == c) {
                return false;
            }
            act(keepTile());
            colour[y][x] = c;
            return true;
        }

        boolean becomes(int[][] next) {
            if (java.util.Arrays.deepEquals(next, colour)) {
                return false;
            }
            act(keepTile());
            colour = next;
            return true;
        }

        boolean shift(int sx, int sy) {
            if (sx < -100 || sx > 100 || sy < -100 || sy > 100) {
                return false;
            }
            int[][] next = new int[high][wide];
            for (int y = 0; y < high; y++) {
                for (int x = 0; x < wide; x++) {
                    next[mod(y + sy, high)][mod(x + sx, wide)] = colour[y][x];
                }
            }
            return becomes(next);
        }

        boolean turn(int t) {
            if (t < 0 || t >= turnings() || wide != high) {
                return false;
            }
            int[][] next = new int[high][wide];
            for (int y = 0; y < high; y++) {
                for (int x = 0; x < wide; x++) {
                    int[] to = go(t, x, y);
                    next[mod(to[1], high)][mod(to[0], wide)] = colour[y][x];
                }
            }
            return becomes(next);
        }

        boolean dye(int one, int other) {
            if (one < 0 || one > 3 || other < 0 || other > 3) {
                return false;
            }
            int[][] next = new int[high][wide];
            for (int y = 0; y < high; y++) {
                for (int x = 0; x < wide; x++) {
                    int c = colour[y][x];
                    next[y][x] = c == one ? other : c == other ? one : c;
                }
            }
            return becomes(next);
        }

        boolean net(boolean toHex) {
            if (hex == toHex) {
                return false;
            }
            act(keepTile());
            hex = toHex;
            return true;
        }

        static final String[] MADE = {
            "", "2", "5", "5:0,h", "6", "5 4", "2 5:h,0", "2 5:h,h", "2 6", "1", "1 6", "1 7:h,h",
            "2", "2 6", "2 7", "1", "1 6"};

        /** Per cell y * n + x the first cell of its ORBIT; null: halves of an odd n. */
        static int[] orbits(int cls, int n) {
            if (n % 2 == 1 && MADE[cls].contains("h")) {
                return null;
            }
            int[] up = new int[n * n];
            for (int i = 0; i < up.length; i++) {
                up[i] = i;
            }
            for (String maker : MADE[cls].trim().split(" ")) {
                if (maker.isEmpty()) {
                    continue;
                }
                int t = Integer.parseInt(maker.split(":")[0]);
                int sx = 0;
                int sy = 0;
                if (maker.contains(":")) {
                    String[] parts = maker.split(":")[1].split(",");
                    sx = parts[0].equals("h") ? n / 2 : 0;
                    sy = parts[1].equals("h") ? n / 2 : 0;
                }
                for (int y = 0; y < n; y++) {
                    for (int x = 0; x < n; x++) {
                        int[] to = go(cls >= 12, t, x, y);
                        join(up, y * n + x, mod(to[1] + sy, n) * n + mod(to[0] + sx, n));
                    }
                }
            }
            int[] first = new int[n * n];
            for (int i = 0; i < first.length; i++) {
                first[i] = root(up, i);
            }
            return first;
        }

        int make(int cls, int n, int colours, int seed) {
            if (cls < 0 || cls > 16 || n < 1 || n > 8 || colours < 1 || colours > 4 || orbits(cls, n) == null) {
                return -1;
            }
            act(keepTile());
            int[] first = orbits(cls, n);
            wide = n;
            high = n;
            hex = cls >= 12;
            colour = new int[n][n];
            int x = seed;
            int made = 0;
            for (int i = 0; i < n * n; i++) {
                if (first[i] == i) {
                    x = x * 1103515245 + 12345;
                    colour[i / n][i % n] = (x >>> 16) % colours;
                    made++;
                } else {
                    colour[i / n][i % n] = colour[first[i] / n][first[i] % n];
                }
            }
            return made;
        }

        int[] asked(int cls) {
            if (cls < 0 || cls > 16 || wide != high || hex != (cls >= 12)) {
                return null;
            }
            return orbits(cls, wide);
        }

        int[] tally(int[] first, int orbit) {
            int[] tally = new int[4];
            for (int i = 0; i < first.length; i++) {
                if (first[i] == orbit) {
                    tally[colour[i / wide][i % wide]]++;
                }
            }
            return tally;
        }

        int flaws(int cls) {
            int[] first = asked(cls);
            if (first == null) {
                return -1;
            }
            int flaws = 0;
            for (int i = 0; i < first.length; i++) {
                if (first[i] == i) {
                    int[] tally = tally(first, i);
                    int most = Math.max(Math.max(tally[0], tally[1]), Math.max(tally[2], tally[3]));
                    flaws += tally[0] + tally[1] + tally[2] + tally[3] - most;
                }
            }
            return flaws;
        }

        int mend(int cls) {
            int flaws = flaws(cls);
            if (flaws <= 0) {
                return flaws;
            }
            int[] first = asked(cls);
            int[][] next = new int[high][wide];
            for (int i = 0; i < first.length; i++) {
                int[] tally = tally(first, first[i]);
                int best = 0;
                for (int c = 1; c < 4; c++) {
                    best = tally[c] > tally[best] ? c : best;
                }
                next[i / wide][i % wide] = best;
            }
            act(keepTile());
            colour = next;
            return flaws;
        }

        int reduce() {
            int w = 1;
            while (!holds(0, w, 0)) {
                w++;
            }
            int h = 1;
            while (!holds(0, 0, h)) {
                h++;
            }
            if (w == wide && h == high) {
                return -1;
            }
            act(keepTile());
            int[][] next = new int[h][w];
            for (int y = 0; y < h; y++) {
                for (int x = 0; x < w; x++) {
                    next[y][x] = colour[y][x];
                }
            }
            wide = w;
            high = h;
            colour = next;
            return w * h;
        }

        int undo() {
            if (past.isEmpty()) {
                return -1;
            }
            giveTile(past.remove(past.size() - 1));
            return past.size();
        }

        int count(int what) {
            int n = 0;
            switch (what) {
                case 0: return wide;
                case 1: return high;
                case 2: return hex ? 1 : 0;
                case 3: return howMany(0);
                case 4: return wide * high / howMany(0);
                case 5: return order();
                case 6: return cls();
                case 7:
                case 8:
                case 9:
                    for (int t = turns(); t < turnings(); t++) {
                        if (howMany(t) > 0) {
                            n += what == 7 ? (mirror(t) ? 1 : 0) : what == 8 ? (mirror(t) ? 0 : 1) : parted(t) ? 0 : 1;
                        }
                    }
                    return n;
                case 10: return howManyKinds(kinds());
                case 11: return (of(0) > 0 ? 1 : 0) + (of(1) > 0 ? 1 : 0) + (of(2) > 0 ? 1 : 0) + (of(3) > 0 ? 1 : 0);
                case 12: return past.size();
                case 13: return text.length();
                case 14:
                    for (int t = 0; t < turnings(); t++) {
                        n += howMany(t) > 0 ? 1 << t : 0;
                    }
                    return n;
                case 20:
                case 21:
                case 22:
                case 23:
                    return of(what - 20);
                default: return -1;
            }
        }

        int of(int c) {
            int n = 0;
            for (int[] row : colour) {
                for (int one : row) {
                    n += one == c ? 1 : 0;
                }
            }
            return n;
        }

        int cell(int x, int y) {
            return at(x, y);
        }

        long step(boolean second, int what) {
            if (what < 0 || what > 2) {
                return THROWN;
            }
            int[] s = best(null);
            if (second) {
                s = best(s);
            }
            return what == 2 ? longOf(s[0], s[1]) : s[what];
        }

        int shifts(int t, int k, int what) {
            if (t < 0 || t >= turnings() || what < 0 || what > 1) {
                return -2;
            }
            if (k == -1 && what == 0) {
                return howMany(t);
            }
            int n = 0;
            for (int y = 0; y < high; y++) {
                for (int x = 0; x < wide; x++) {
                    if (holds(t, x, y) && n++ == k) {
                        return what == 0 ? x : y;
                    }
                }
            }
            return -2;
        }

        int flip(int t) {
            if (t < turns() || t >= turnings() || howMany(t) == 0) {
                return -1;
            }
            return mirror(t) ? 1 : 0;
        }

        int centre(int m, int k, int what) {
            if ("12346".indexOf("" + m) < 0 || m > 6 || what < 0 || what > 1) {
                return -2;
            }
            java.util.ArrayList<int[]> all = new java.util.ArrayList<>();
            for (int y = 0; y < 6 * high; y++) {
                for (int x = 0; x < 6 * wide; x++) {
                    int n = 0;
                    for (int t = 0; t < turns(); t++) {
                        int[] to = go(t, x, y);
                        boolean is = false;
                        for (int sy = -40; sy <= 40 && !is; sy++) {
                            if (to[1] + 6 * sy == y) {
                                for (int sx = -40; sx <= 40 && !is; sx++) {
                                    is = to[0] + 6 * sx == x && holds(t, sx, sy);
                                }
                            }
                        }
                        n += is ? 1 : 0;
                    }
                    if (n == m) {
                        all.add(new int[] {x, y});
                    }
                }
            }
            if (k == -1 && what == 0) {
                return all.size();
            }
            return k < 0 || k >= all.size() ? -2 : all.get(k)[what];
        }

        int kind(int x, int y) {
            return kinds()[mod(y, high) * wide + mod(x, wide)];
        }

        int wayShifts(int way, boolean zero) {
            int n = 0;
            for (int s = 0; s < (zero ? 1 : wide); s++) {
                boolean all = true;
                for (int y = 0; y < high; y++) {
                    for (int x = 0; x < wide; x++) {
                        int tx = way % 2 == 1 ? -x : x;
                        int ty = way >= 2 ? high - 1 - y : y;
                        all &= colour[y][x] == colour[ty][mod(tx + s, wide)];
                    }
                }
                n += all ? 1 : 0;
            }
            return n;
        }

        int strip(int what) {
            if (what < 0 || what > 4) {
                return -1;
            }
            if (what > 0) {
                return wayShifts(what - 1, false);
            }
            boolean one = wayShifts(1, false) > 0;
            if (wayShifts(2, true) > 0) {
                return one ? 6 : 3;
            }
            if (wayShifts(2, false) > 0) {
                return one ? 5 : 4;
            }
            return one ? 2 : wayShifts(3, false) > 0 ? 1 : 0;
        }

        int coloured(int t, boolean plain) {
            if (t < 0 || t >= turnings()) {
                return -1;
            }
            int n = 0;
            for (int sy = 0; sy < high; sy++) {
                for (int sx = 0; sx < wide; sx++) {
                    n += colouredBy(t, sx, sy, plain) ? 1 : 0;
                }
            }
            return n;
        }

        boolean colouredBy(int t, int sx, int sy, boolean plain) {
            boolean[][] comes = new boolean[4][4];
            int stretch = stretch();
            for (int y = 0; y < stretch; y++) {
                for (int x = 0; x < stretch; x++) {
                    int[] to = go(t, x, y);
                    comes[at(x, y)][at(to[0] + sx, to[1] + sy)] = true;
                }
            }
            for (int a = 0; a < 4; a++) {
                for (int b = 0; b < 4; b++) {
                    for (int c = 0; c < 4; c++) {
                        if (b != c && (comes[a][b] && comes[a][c] || comes[b][a] && comes[c][a])) {
                            return false;
                        }
                    }
                    if (plain && a != b && comes[a][b]) {
                        return false;
                    }
                }
            }
            return true;
        }

        int like(int k) {
            if (k < 0 || k > 2 || images[k] == null) {
                return -2;
            }
            Plain was = new Plain();
            was.giveTile((Object[]) images[k][0]);
            if (was.hex != hex || was.wide != wide || was.high != high) {
                return -1;
            }
            int stretch = stretch();
            for (int t = 0; t < turnings(); t++) {
                for (int sy = 0; sy < high; sy++) {
                    for (int sx = 0; sx < wide; sx++) {
                        boolean all = true;
                        for (int y = 0; y < stretch && all; y++) {
                            for (int x = 0; x < stretch && all; x++) {
                                int[] to = go(t, x, y);
                                all = was.at(x, y) == at(to[0] + sx, to[1] + sy);
                            }
                        }
                        if (all) {
                            return 64 * t + 8 * sy + sx;
                        }
                    }
                }
            }
            return -1;
        }

        int orbit(int cls, int x, int y, boolean wantFirst) {
            int[] first = asked(cls);
            if (first == null || !has(x, y)) {
                return -1;
            }
            int mine = first[y * wide + x];
            if (wantFirst) {
                return 8 * (mine / wide) + mine % wide;
            }
            int n = 0;
            for (int f : first) {
                n += f == mine ? 1 : 0;
            }
            return n;
        }

        int nearest(int most) {
            int best = -1;
            int fewest = 1000;
            for (int cls = 0; cls < 17; cls++) {
                int[] first = asked(cls);
                if (first == null || flaws(cls) > most) {
                    continue;
                }
                int n = 0;
                for (int i = 0; i < first.length; i++) {
                    n += first[i] == i ? 1 : 0;
                }
                if (n <= fewest) {
                    fewest = n;
                    best = cls;
                }
            }
            return best;
        }

        int painted(int x, int y, int c) {
            if (!has(x, y) || c < 0 || c > 3) {
                return -1;
            }
            int was = colour[y][x];
            colour[y][x] = c;
            int cls = cls();
            colour[y][x] = was;
            return cls;
        }

        int better() {
            if (wide * high > 36) {
                return -1;
            }
            int fewest = howManyKinds(kinds());
            int best = -1;
            for (int y = 0; y < high; y++) {
                for (int x = 0; x < wide; x++) {
                    int was = colour[y][x];
                    for (int c = 0; c < 4; c++) {
                        if (c != was) {
                            colour[y][x] = c;
                            int n = howManyKinds(kinds());
                            if (n < fewest) {
                                fewest = n;
                                best = 32 * y + 4 * x + c;
                            }
                        }
                    }
                    colour[y][x] = was;
                }
            }
            return best;
        }

        boolean image(int k) {
            if (k < 0 || k > 2) {
                return false;
            }
            images[k] = new Object[] {keepTile(), text, fault, place};
            return true;
        }

        boolean again(int k) {
            if (k < 0 || k > 2 || images[k] == null) {
                return false;
            }
            giveTile((Object[]) images[k][0]);
            text = (String) images[k][1];
            fault = (Integer) images[k][2];
            place = (Integer) images[k][3];
            past.clear();
            return true;
        }
    }
}
