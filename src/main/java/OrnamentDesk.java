import java.util.NoSuchElementException;

/** A desk for ornaments that fill the plane. What each call promises stands in DOC.md. */
public final class OrnamentDesk {
    public static final int NONE = -1;

    private static final int NO_SUCH = -2;
    private static final int SIDE = 8;
    private static final int PLACES = 64;
    private static final int COLOURS = 4;
    private static final int CLASSES = 17;
    private static final int FIRST_HEX_CLASS = 12;
    private static final int FARTHEST_SHIFT = 100;
    private static final int MOST_CELLS_TO_BETTER = 36;
    private static final int IMAGES = 3;

    private final Page now = new Page();
    private final Page[] kept = new Page[IMAGES];
    private final Past past = new Past();
    private final Orbits orbits = new Orbits();
    private final Group group = new Group();
    private final Group trial = new Group();
    private final Tile draft = new Tile();

    public OrnamentDesk() {
        for (int k = 0; k < kept.length; k++) {
            kept[k] = new Page();
        }
    }

    // ---- texts

    public int tell(long eight) {
        return now.script.append(eight);
    }

    public int read() {
        if (!now.script.readInto(draft)) {
            return NONE;
        }
        now.tile.copyFrom(draft);
        past.clear();
        return now.tile.cells();
    }

    public int fault(boolean place) {
        return place ? now.script.place : now.script.fault;
    }

    // ---- acts

    public boolean paint(int x, int y, int colour) {
        if (!now.tile.has(x, y) || !isColour(colour)) {
            return false;
        }
        draft.copyFrom(now.tile);
        draft.colourCells(Tile.bit(x, y), colour);
        return takeDraft();
    }

    public boolean shift(int x, int y) {
        if (!isShiftPart(x) || !isShiftPart(y)) {
            return false;
        }
        draft.copyFrom(now.tile);
        draft.ones = now.tile.rolled(now.tile.ones, x, y);
        draft.twos = now.tile.rolled(now.tile.twos, x, y);
        return takeDraft();
    }

    public boolean turn(int turning) {
        Tile tile = now.tile;
        if (!Net.isTurning(tile.hex, turning) || tile.wide != tile.high) {
            return false;
        }
        return draft.turnFrom(tile, tile.hex, turning) && takeDraft();
    }

    public boolean dye(int one, int other) {
        if (!isColour(one) || !isColour(other)) {
            return false;
        }
        draft.copyFrom(now.tile);
        draft.colourCells(now.tile.ofColour(one), other);
        draft.colourCells(now.tile.ofColour(other), one);
        return takeDraft();
    }

    public boolean net(boolean hex) {
        draft.copyFrom(now.tile);
        draft.hex = hex;
        return takeDraft();
    }

    public int make(int cls, int n, int colours, int seed) {
        if (!isClass(cls) || n < 1 || n > SIDE || colours < 1 || colours > COLOURS) {
            return NONE;
        }
        if (!Orbits.fits(cls, n)) {
            return NONE;
        }
        orbits.split(cls, n);
        draft.clear(n, n, cls >= FIRST_HEX_CLASS);
        int x = seed;
        for (int k = 0; k < PLACES; k++) {
            long members = orbits.startingAt(k);
            if (members != 0L) {
                x = x * 1103515245 + 12345;
                draft.colourCells(members, (x >>> 16) % colours);
            }
        }
        past.keep(now.tile);
        now.tile.copyFrom(draft);
        return orbits.size;
    }

    public int mend(int cls) {
        if (!canBeAsked(cls)) {
            return NONE;
        }
        orbits.split(cls, now.tile.wide);
        int found = orbits.flawsOf(now.tile);
        draft.copyFrom(now.tile);
        for (int k = 0; k < PLACES; k++) {
            long members = orbits.startingAt(k);
            draft.colourCells(members, now.tile.mostlyOf(members));
        }
        takeDraft();
        return found;
    }

    public int reduce() {
        Tile tile = now.tile;
        draft.clear(tile.leastStepAlongX(), tile.leastStepAlongY(), tile.hex);
        draft.ones = tile.ones & draft.all();
        draft.twos = tile.twos & draft.all();
        return takeDraft() ? now.tile.cells() : NONE;
    }

    public int undo() {
        return past.giveBack(now.tile) ? past.size : NONE;
    }

    // ---- what there is

    public int count(int what) {
        Tile tile = now.tile;
        if (what >= 20 && what < 20 + COLOURS) {
            return Long.bitCount(tile.ofColour(what - 20));
        }
        if ((what >= 3 && what <= 10) || what == 14) {
            group.lookAt(tile);
        }
        switch (what) {
            case 0: return tile.wide;
            case 1: return tile.high;
            case 2: return tile.hex ? 1 : 0;
            case 3: return group.span();
            case 4: return group.motif();
            case 5: return group.order();
            case 6: return group.planeClass();
            case 7: return group.mirrors();
            case 8: return group.flips() - group.mirrors();
            case 9: return group.crossed();
            case 10: return group.kindsAhead(0L);
            case 11: return tile.coloursUsed();
            case 12: return past.size;
            case 13: return now.script.length;
            case 14: return group.turningBits();
            default: return NONE;
        }
    }

    public int cell(int x, int y) {
        return now.tile.colourAt(x, y);
    }

    public int step(boolean second, int what) throws NoSuchElementException {
        if (what < 0 || what > 2) {
            throw new NoSuchElementException("what is 0, 1 or 2");
        }
        group.lookAt(now.tile);
        group.findSteps();
        int x = second ? group.secondX : group.firstX;
        int y = second ? group.secondY : group.firstY;
        return what == 0 ? x : what == 1 ? y : Net.lengthOf(now.tile.hex, x, y);
    }

    public int shifts(int turning, int k, int what) {
        if (!Net.isTurning(now.tile.hex, turning) || what < 0 || what > 1) {
            return NO_SUCH;
        }
        group.lookAt(now.tile);
        long found = group.shiftsFor(turning);
        if (k == NONE && what == 0) {
            return Long.bitCount(found);
        }
        int place = placeOf(found, k);
        if (place == NONE) {
            return NO_SUCH;
        }
        return what == 0 ? place % SIDE : place / SIDE;
    }

    public int flip(int turning) {
        group.lookAt(now.tile);
        if (!group.hasFlip(turning)) {
            return NONE;
        }
        return group.isMirror(turning) ? 1 : 0;
    }

    public int centre(int m, int k, int what) {
        boolean some = m == 1 || m == 2 || m == 3 || m == 4 || m == 6;
        if (!some || k < NONE || what < 0 || what > 1 || (k == NONE && what == 1)) {
            return NO_SUCH;
        }
        group.lookAt(now.tile);
        int found = 0;
        for (int y = 0; y < 6 * now.tile.high; y++) {
            for (int x = 0; x < 6 * now.tile.wide; x++) {
                if (group.turnsAt(x, y) == m) {
                    if (found == k) {
                        return what == 0 ? x : y;
                    }
                    found++;
                }
            }
        }
        return k == NONE ? found : NO_SUCH;
    }

    public int kind(int x, int y) {
        group.lookAt(now.tile);
        return group.kindsAhead(now.tile.bitOfPlane(x, y));
    }

    public int strip(int what) {
        if (what < 0 || what > 4) {
            return NONE;
        }
        return what == 0 ? stripClass() : Long.bitCount(shiftsOfWay(what - 1));
    }

    public int coloured(int turning, boolean plain) {
        if (!Net.isTurning(now.tile.hex, turning)) {
            return NONE;
        }
        group.lookAt(now.tile);
        return plain ? Long.bitCount(group.shiftsFor(turning)) : group.recolourings(turning);
    }

    public int like(int k) {
        Page page = imageOf(k);
        if (page == null) {
            return NO_SUCH;
        }
        Tile tile = now.tile;
        if (!tile.sizedAs(page.tile)) {
            return NONE;
        }
        for (int turning = 0; turning < Net.turnings(tile.hex); turning++) {
            if (draft.turnFrom(page.tile, tile.hex, turning)) {
                int place = placeOf(tile.stepsFrom(draft), 0);
                if (place != NONE) {
                    return PLACES * turning + place;
                }
            }
        }
        return NONE;
    }

    // ---- classes

    public int flaws(int cls) {
        if (!canBeAsked(cls)) {
            return NONE;
        }
        orbits.split(cls, now.tile.wide);
        return orbits.flawsOf(now.tile);
    }

    public int orbit(int cls, int x, int y, boolean first) {
        if (!canBeAsked(cls) || !now.tile.has(x, y)) {
            return NONE;
        }
        orbits.split(cls, now.tile.wide);
        long members = orbits.withCell(x, y);
        return first ? placeOf(members, 0) : Long.bitCount(members);
    }

    public int nearest(int most) {
        int best = NONE;
        int fewest = PLACES + 1;
        for (int cls = CLASSES - 1; cls >= 0; cls--) {
            if (canBeAsked(cls)) {
                orbits.split(cls, now.tile.wide);
                if (orbits.size < fewest && orbits.flawsOf(now.tile) <= most) {
                    fewest = orbits.size;
                    best = cls;
                }
            }
        }
        return best;
    }

    // ---- what would be

    public int painted(int x, int y, int colour) {
        if (!now.tile.has(x, y) || !isColour(colour)) {
            return NONE;
        }
        draft.copyFrom(now.tile);
        draft.colourCells(Tile.bit(x, y), colour);
        trial.lookAt(draft);
        return trial.planeClass();
    }

    public int better() {
        Tile tile = now.tile;
        if (tile.cells() > MOST_CELLS_TO_BETTER) {
            return NONE;
        }
        group.lookAt(tile);
        int fewest = group.kindsAhead(0L);
        int best = NONE;
        for (int y = 0; y < tile.high; y++) {
            for (int x = 0; x < tile.wide; x++) {
                for (int colour = 0; colour < COLOURS; colour++) {
                    boolean other = colour != tile.colourAt(x, y);
                    int kinds = other ? kindsIfPainted(x, y, colour) : fewest;
                    if (kinds < fewest) {
                        fewest = kinds;
                        best = 32 * y + 4 * x + colour;
                    }
                }
            }
        }
        return best;
    }

    // ---- kept

    public boolean image(int k) {
        if (k < 0 || k >= kept.length || kept[k] == null) {
            return false;
        }
        kept[k].copyFrom(now);
        kept[k].filled = true;
        return true;
    }

    public boolean again(int k) {
        Page page = imageOf(k);
        if (page == null) {
            return false;
        }
        now.copyFrom(page);
        past.clear();
        return true;
    }

    // ---- what the calls share

    private static boolean isColour(int colour) {
        return colour >= 0 && colour < COLOURS;
    }

    private static boolean isClass(int cls) {
        return cls >= 0 && cls < CLASSES;
    }

    private static boolean isShiftPart(int part) {
        return part >= -FARTHEST_SHIFT && part <= FARTHEST_SHIFT;
    }

    /** The remainder that is not below 0. */
    private static int rest(int number, int by) {
        if (by <= 0) {
            return 0;
        }
        int left = number % by;
        return left < 0 ? left + by : left;
    }

    /** 8 y + x of the k-th of these cells, y rising, then x; NONE, if there are not so many. */
    private static int placeOf(long cells, int k) {
        int ahead = 0;
        for (int place = 0; place < PLACES; place++) {
            if (((cells >>> place) & 1L) != 0L) {
                if (ahead == k) {
                    return place;
                }
                ahead++;
            }
        }
        return NONE;
    }

    /** The draft becomes the tile, as an act that can be undone, unless it is the same. */
    private boolean takeDraft() {
        if (draft.same(now.tile)) {
            return false;
        }
        past.keep(now.tile);
        now.tile.copyFrom(draft);
        return true;
    }

    private Page imageOf(int k) {
        if (k < 0 || k >= kept.length) {
            return null;
        }
        Page page = kept[k];
        return page != null && page.filled ? page : null;
    }

    private boolean canBeAsked(int cls) {
        Tile tile = now.tile;
        return isClass(cls) && tile.wide == tile.high && tile.hex == (cls >= FIRST_HEX_CLASS)
            && Orbits.fits(cls, tile.wide);
    }

    private int kindsIfPainted(int x, int y, int colour) {
        draft.copyFrom(now.tile);
        draft.colourCells(Tile.bit(x, y), colour);
        trial.lookAt(draft);
        return trial.kindsAhead(0L);
    }

    /** Bit s stands for the SHIFT s of the WAY. */
    private long shiftsOfWay(int way) {
        Tile tile = now.tile;
        if (!draft.turnFrom(tile, false, Net.turningOfWay(way))) {
            return 0L;
        }
        long steps = tile.stepsFrom(draft);
        int row = way >= 2 ? tile.high - 1 : 0;
        return (steps >>> (SIDE * row)) & 255L;
    }

    private int stripClass() {
        boolean mirrored = shiftsOfWay(1) != 0L;
        long turnedOver = shiftsOfWay(2);
        if ((turnedOver & 1L) != 0L) {
            return mirrored ? 6 : 3;
        }
        if (turnedOver != 0L) {
            return mirrored ? 5 : 4;
        }
        if (mirrored) {
            return 2;
        }
        return shiftsOfWay(3) != 0L ? 1 : 0;
    }

    /** What a net lets one do with steps; SQUARE and HEX number their TURNINGS each for itself. */
    private static final class Net {
        private static final int SQUARE_TURNS = 4;
        private static final int SQUARE_TURNINGS = 8;
        private static final int HEX_TURNS = 6;
        private static final int HEX_TURNINGS = 12;

        // A TURNING a line, a b c d: (x, y) comes to (a x + b y, c x + d y). SQUARE's, then HEX's.
        private static final int[] TABLE = {
            1, 0, 0, 1,
            0, -1, 1, 0,
            -1, 0, 0, -1,
            0, 1, -1, 0,
            1, 0, 0, -1,
            -1, 0, 0, 1,
            0, 1, 1, 0,
            0, -1, -1, 0,

            1, 0, 0, 1,
            0, -1, 1, 1,
            -1, -1, 1, 0,
            -1, 0, 0, -1,
            0, 1, -1, -1,
            1, 1, -1, 0,
            0, 1, 1, 0,
            0, -1, -1, 0,
            1, 1, 0, -1,
            -1, -1, 0, 1,
            1, 0, -1, -1,
            -1, 0, 1, 1,
        };

        // The least step x, y that a FLIP turns round (for TURNS: none). SQUARE's, then HEX's.
        private static final int[] ACROSS = {
            0, 0, 0, 0, 0, 0, 0, 0,
            0, 1, 1, 0, 1, -1, 1, 1,

            0, 0, 0, 0, 0, 0, 0, 0, 0, 0, 0, 0,
            1, -1, 1, 1, 1, -2, 1, 0, 0, 1, 2, -1,
        };

        static int turns(boolean hex) {
            return hex ? HEX_TURNS : SQUARE_TURNS;
        }

        static int turnings(boolean hex) {
            return hex ? HEX_TURNINGS : SQUARE_TURNINGS;
        }

        static boolean isTurning(boolean hex, int turning) {
            return turning >= 0 && turning < turnings(hex);
        }

        static boolean isFlip(boolean hex, int turning) {
            return turning >= turns(hex) && turning < turnings(hex);
        }

        /** The TURNING that takes this one back: a FLIP is its own. */
        static int inverse(boolean hex, int turning) {
            if (turning <= 0 || isFlip(hex, turning)) {
                return turning;
            }
            return turns(hex) - turning;
        }

        static int turnedX(boolean hex, int turning, int x, int y) {
            int line = 4 * lineOf(hex, turning);
            return entry(TABLE, line) * x + entry(TABLE, line + 1) * y;
        }

        static int turnedY(boolean hex, int turning, int x, int y) {
            int line = 4 * lineOf(hex, turning);
            return entry(TABLE, line + 2) * x + entry(TABLE, line + 3) * y;
        }

        static int acrossX(boolean hex, int flip) {
            return entry(ACROSS, 2 * lineOf(hex, flip));
        }

        static int acrossY(boolean hex, int flip) {
            return entry(ACROSS, 2 * lineOf(hex, flip) + 1);
        }

        /** LONG of a step. */
        static int lengthOf(boolean hex, int x, int y) {
            return x * x + y * y + (hex ? x * y : 0);
        }

        /** A WAY of a strip is a TURNING of SQUARE on whatever net, with HIGH - 1 added to a y turned round. */
        static int turningOfWay(int way) {
            switch (way) {
                case 1: return 5;
                case 2: return 4;
                case 3: return 2;
                default: return 0;
            }
        }

        private static int lineOf(boolean hex, int turning) {
            return hex ? SQUARE_TURNINGS + turning : turning;
        }

        private static int entry(int[] table, int at) {
            return at >= 0 && at < table.length ? table[at] : 0;
        }
    }

    /**
     * A tile: the bits 8 y + x of ones and twos are the lower and the higher bit of the COLOUR of (x, y).
     * Bits outside of the tile are 0, so that tiles can be compared by their bits. Sets of cells, and of
     * steps below WIDE and HIGH, are bits in the same order.
     */
    private static final class Tile {
        private static final long FIRST_COLUMN = 0x0101010101010101L;

        private int wide = 4;
        private int high = 4;
        private boolean hex;
        private long ones;
        private long twos;

        static long bit(int x, int y) {
            return 1L << (SIDE * y + x);
        }

        void copyFrom(Tile other) {
            wide = other.wide;
            high = other.high;
            hex = other.hex;
            ones = other.ones;
            twos = other.twos;
        }

        void clear(int columns, int rows, boolean onHex) {
            wide = columns;
            high = rows;
            hex = onHex;
            ones = 0L;
            twos = 0L;
        }

        boolean sizedAs(Tile other) {
            return wide == other.wide && high == other.high && hex == other.hex;
        }

        boolean same(Tile other) {
            return sizedAs(other) && ones == other.ones && twos == other.twos;
        }

        int cells() {
            return wide * high;
        }

        boolean has(int x, int y) {
            return x >= 0 && x < wide && y >= 0 && y < high;
        }

        long all() {
            long columns = FIRST_COLUMN * ((1L << wide) - 1L);
            long rows = -1L >>> (PLACES - SIDE * high);
            return columns & rows;
        }

        long bitOfPlane(int x, int y) {
            return bit(rest(x, wide), rest(y, high));
        }

        int colourAt(int x, int y) {
            long bit = bitOfPlane(x, y);
            return ((ones & bit) != 0L ? 1 : 0) + ((twos & bit) != 0L ? 2 : 0);
        }

        long ofColour(int colour) {
            long low = (colour & 1) != 0 ? ones : ~ones;
            long top = (colour & 2) != 0 ? twos : ~twos;
            return low & top & all();
        }

        int coloursUsed() {
            int used = 0;
            for (int colour = 0; colour < COLOURS; colour++) {
                if (ofColour(colour) != 0L) {
                    used++;
                }
            }
            return used;
        }

        /** The COLOUR that most of these cells have, of several the least. */
        int mostlyOf(long cells) {
            int best = 0;
            for (int colour = 1; colour < COLOURS; colour++) {
                if (Long.bitCount(cells & ofColour(colour)) > Long.bitCount(cells & ofColour(best))) {
                    best = colour;
                }
            }
            return best;
        }

        void colourCells(long cells, int colour) {
            ones = (colour & 1) != 0 ? ones | cells : ones & ~cells;
            twos = (colour & 2) != 0 ? twos | cells : twos & ~cells;
        }

        /** Where these cells come by a step, by the remainders. */
        long rolled(long cells, int x, int y) {
            return rolledAlong(rolledDown(cells, rest(y, high)), rest(x, wide));
        }

        private long rolledDown(long cells, int y) {
            if (y == 0) {
                return cells;
            }
            return ((cells << (SIDE * y)) & all()) | (cells >>> (SIDE * (high - y)));
        }

        // What a row's shift carries over into a neighbouring row lands where the masks cut it off.
        private long rolledAlong(long cells, int x) {
            if (x == 0) {
                return cells;
            }
            long firstColumns = FIRST_COLUMN * ((1L << x) - 1L);
            return ((cells << x) & all() & ~firstColumns) | ((cells >>> (wide - x)) & firstColumns);
        }

        boolean comesAgainBy(int x, int y) {
            return rolled(ones, x, y) == ones && rolled(twos, x, y) == twos;
        }

        int leastStepAlongX() {
            int x = 1;
            while (x < wide && !comesAgainBy(x, 0)) {
                x++;
            }
            return x;
        }

        int leastStepAlongY() {
            int y = 1;
            while (y < high && !comesAgainBy(0, y)) {
                y++;
            }
            return y;
        }

        /** The steps below WIDE and HIGH by which another tile of this size comes to be this one. */
        long stepsFrom(Tile other) {
            long steps = 0L;
            for (int y = 0; y < high; y++) {
                long one = rolledDown(other.ones, y);
                long two = rolledDown(other.twos, y);
                for (int x = 0; x < wide; x++) {
                    if (rolledAlong(one, x) == ones && rolledAlong(two, x) == twos) {
                        steps |= bit(x, y);
                    }
                }
            }
            return steps;
        }

        /**
         * This tile becomes another one turned about (0, 0). False: the plane of the other one, turned,
         * does not come again by WIDE and by HIGH, so that no tile of this size can tell it.
         */
        boolean turnFrom(Tile other, boolean asHex, int turning) {
            clear(other.wide, other.high, other.hex);
            int back = Net.inverse(asHex, turning);
            int alongX = Net.turnedX(asHex, back, 1, 0);
            int alongY = Net.turnedY(asHex, back, 1, 0);
            int downX = Net.turnedX(asHex, back, 0, 1);
            int downY = Net.turnedY(asHex, back, 0, 1);
            if (!other.comesAgainBy(wide * alongX, wide * alongY) || !other.comesAgainBy(high * downX, high * downY)) {
                return false;
            }
            for (int y = 0; y < high; y++) {
                for (int x = 0; x < wide; x++) {
                    int from = SIDE * rest(x * alongY + y * downY, high) + rest(x * alongX + y * downX, wide);
                    int to = SIDE * y + x;
                    ones |= ((other.ones >>> from) & 1L) << to;
                    twos |= ((other.twos >>> from) & 1L) << to;
                }
            }
            return true;
        }
    }

    /** All SYMMETRIES of the plane of a tile, and what follows from them. */
    private static final class Group {
        // No step of FIRST's or SECOND's LONG, at most 8 times 8, has a part beyond it.
        private static final int REACH = 9;

        private final Tile seen = new Tile();
        private final Tile turned = new Tile();
        private final long[] found = new long[Net.HEX_TURNINGS];
        private boolean looked;
        private boolean stepsFound;
        private int firstX;
        private int firstY;
        private int secondX;
        private int secondY;

        /** What follows tells of this tile. A tile that was looked at last need not be looked at anew. */
        void lookAt(Tile tile) {
            if (looked && seen.same(tile)) {
                return;
            }
            seen.copyFrom(tile);
            for (int turning = 0; turning < found.length; turning++) {
                boolean can = Net.isTurning(seen.hex, turning) && turned.turnFrom(seen, seen.hex, turning);
                found[turning] = can ? seen.stepsFrom(turned) : 0L;
            }
            looked = true;
            stepsFound = false;
        }

        long shiftsFor(int turning) {
            return turning >= 0 && turning < found.length ? found[turning] : 0L;
        }

        private boolean hasSymmetry(int turning, int x, int y) {
            return (shiftsFor(turning) & seen.bitOfPlane(x, y)) != 0L;
        }

        boolean hasFlip(int turning) {
            return Net.isFlip(seen.hex, turning) && shiftsFor(turning) != 0L;
        }

        int span() {
            return Long.bitCount(shiftsFor(0));
        }

        int motif() {
            int span = span();
            return span > 0 ? seen.cells() / span : 0;
        }

        int turningBits() {
            int bits = 0;
            for (int turning = 0; turning < Net.turnings(seen.hex); turning++) {
                if (shiftsFor(turning) != 0L) {
                    bits |= 1 << turning;
                }
            }
            return bits;
        }

        int order() {
            int turns = (1 << Net.turns(seen.hex)) - 1;
            return Integer.bitCount(turningBits() & turns);
        }

        int flips() {
            return Integer.bitCount(turningBits()) - order();
        }

        int mirrors() {
            int mirrors = 0;
            for (int turning = 0; turning < Net.turnings(seen.hex); turning++) {
                if (hasFlip(turning) && isMirror(turning)) {
                    mirrors++;
                }
            }
            return mirrors;
        }

        int crossed() {
            int crossed = 0;
            findSteps();
            for (int turning = 0; turning < Net.turnings(seen.hex); turning++) {
                if (hasFlip(turning) && !isParted(turning)) {
                    crossed++;
                }
            }
            return crossed;
        }

        // Done twice, a FLIP leaves all where it is just if it turns its SHIFT round; such steps are
        // multiples of one, and by the remainders they come again after WIDE times HIGH of them.
        boolean isMirror(int flip) {
            int x = Net.acrossX(seen.hex, flip);
            int y = Net.acrossY(seen.hex, flip);
            for (int times = 0; times < seen.cells(); times++) {
                if (hasSymmetry(flip, times * x, times * y)) {
                    return true;
                }
            }
            return false;
        }

        // All STEPS are made up of FIRST and SECOND, so that these two tell it for all. findSteps() goes ahead.
        private boolean isParted(int flip) {
            return hasHalfSum(flip, firstX, firstY) && hasHalfSum(flip, secondX, secondY);
        }

        // The part of a step that the FLIP leaves as it is is half of the step and the flipped step together.
        private boolean hasHalfSum(int flip, int x, int y) {
            int sumX = x + Net.turnedX(seen.hex, flip, x, y);
            int sumY = y + Net.turnedY(seen.hex, flip, x, y);
            return sumX % 2 == 0 && sumY % 2 == 0 && hasSymmetry(0, sumX / 2, sumY / 2);
        }

        void findSteps() {
            if (stepsFound) {
                return;
            }
            firstX = 0;
            firstY = 0;
            secondX = 0;
            secondY = 0;
            for (int y = -REACH; y <= REACH; y++) {
                for (int x = -REACH; x <= REACH; x++) {
                    if ((x != 0 || y != 0) && comesAhead(x, y, firstX, firstY) && hasSymmetry(0, x, y)) {
                        firstX = x;
                        firstY = y;
                    }
                }
            }
            for (int y = -REACH; y <= REACH; y++) {
                for (int x = -REACH; x <= REACH; x++) {
                    if (x * firstY != y * firstX && comesAhead(x, y, secondX, secondY) && hasSymmetry(0, x, y)) {
                        secondX = x;
                        secondY = y;
                    }
                }
            }
            stepsFound = true;
        }

        // (0, 0) stands for no step as yet.
        private boolean comesAhead(int x, int y, int otherX, int otherY) {
            if (otherX == 0 && otherY == 0) {
                return true;
            }
            int own = Net.lengthOf(seen.hex, x, y);
            int other = Net.lengthOf(seen.hex, otherX, otherY);
            if (own != other) {
                return own < other;
            }
            return x != otherX ? x > otherX : y > otherY;
        }

        int planeClass() {
            boolean flipless = flips() == 0;
            findSteps();
            switch (order()) {
                case 2: return flipless ? 1 : crossed() > 0 ? 8 : 7 - mirrors();
                case 3: return flipless ? 12 : turnsShortestRound() ? 13 : 14;
                case 4: return flipless ? 9 : keepsFirstByMirror() ? 10 : 11;
                case 6: return flipless ? 15 : 16;
                default: return flipless ? 0 : crossed() > 0 ? 4 : 3 - mirrors();
            }
        }

        private boolean keepsFirstByMirror() {
            for (int turning = 0; turning < Net.turnings(seen.hex); turning++) {
                boolean keeps = Net.turnedX(seen.hex, turning, firstX, firstY) == firstX
                    && Net.turnedY(seen.hex, turning, firstX, firstY) == firstY;
                if (keeps && hasFlip(turning) && isMirror(turning)) {
                    return true;
                }
            }
            return false;
        }

        private boolean turnsShortestRound() {
            int shortest = Net.lengthOf(seen.hex, firstX, firstY);
            for (int y = -REACH; y <= REACH; y++) {
                for (int x = -REACH; x <= REACH; x++) {
                    boolean asLong = Net.lengthOf(seen.hex, x, y) == shortest;
                    if (asLong && hasSymmetry(0, x, y) && hasFlipRound(x, y)) {
                        return true;
                    }
                }
            }
            return false;
        }

        private boolean hasFlipRound(int x, int y) {
            for (int turning = 0; turning < Net.turnings(seen.hex); turning++) {
                boolean round = Net.turnedX(seen.hex, turning, x, y) == -x
                    && Net.turnedY(seen.hex, turning, x, y) == -y;
                if (round && hasFlip(turning)) {
                    return true;
                }
            }
            return false;
        }

        /** How many TURNS are of the point (x / 6, y / 6). */
        int turnsAt(int x, int y) {
            int turns = 0;
            for (int turning = 0; turning < Net.turns(seen.hex); turning++) {
                if (shiftsFor(turning) != 0L && leavesPoint(turning, x, y)) {
                    turns++;
                }
            }
            return turns;
        }

        private boolean leavesPoint(int turning, int x, int y) {
            int lackX = x - Net.turnedX(seen.hex, turning, x, y);
            int lackY = y - Net.turnedY(seen.hex, turning, x, y);
            return lackX % 6 == 0 && lackY % 6 == 0 && hasSymmetry(turning, lackX / 6, lackY / 6);
        }

        /** How many KINDS are numbered ahead of that of a cell of the tile; without a cell all KINDS. */
        int kindsAhead(long cell) {
            long passed = 0L;
            int kinds = 0;
            for (int y = 0; y < seen.high; y++) {
                for (int x = 0; x < seen.wide; x++) {
                    if ((passed & Tile.bit(x, y)) == 0L) {
                        long alike = allOfKind(x, y);
                        if ((alike & cell) != 0L) {
                            return kinds;
                        }
                        passed |= alike;
                        kinds++;
                    }
                }
            }
            return kinds;
        }

        // All SHIFTS of a TURNING at once: they are rolled to where the TURNING alone brings the cell.
        private long allOfKind(int x, int y) {
            long alike = 0L;
            for (int turning = 0; turning < Net.turnings(seen.hex); turning++) {
                long shifts = shiftsFor(turning);
                if (shifts != 0L) {
                    int toX = Net.turnedX(seen.hex, turning, x, y);
                    int toY = Net.turnedY(seen.hex, turning, x, y);
                    alike |= seen.rolled(shifts, toX, toY);
                }
            }
            return alike;
        }

        /** By how many SHIFTS of a TURNING the plane is COLOURED. */
        int recolourings(int turning) {
            if (!turned.turnFrom(seen, seen.hex, turning)) {
                return 0;
            }
            int shifts = 0;
            for (int y = 0; y < seen.high; y++) {
                for (int x = 0; x < seen.wide; x++) {
                    if (keepsColoursApart(x, y)) {
                        shifts++;
                    }
                }
            }
            return shifts;
        }

        private boolean keepsColoursApart(int x, int y) {
            for (int colour = 0; colour < COLOURS; colour++) {
                long come = seen.rolled(turned.ofColour(colour), x, y);
                if (come != 0L && !isAllOfOneColour(come)) {
                    return false;
                }
            }
            return true;
        }

        private boolean isAllOfOneColour(long cells) {
            for (int colour = 0; colour < COLOURS; colour++) {
                if (seen.ofColour(colour) == cells) {
                    return true;
                }
            }
            return false;
        }
    }

    /** The ORBITS of a class on a tile with n COLUMNS and n ROWS. */
    private static final class Orbits {
        // A class a line: two times a TURNING, and its SHIFT x, y in halves of n. TURNING 0 stands for none.
        private static final int[] MAKERS = {
            0, 0, 0, 0, 0, 0,
            2, 0, 0, 0, 0, 0,
            5, 0, 0, 0, 0, 0,
            5, 0, 1, 0, 0, 0,
            6, 0, 0, 0, 0, 0,
            5, 0, 0, 4, 0, 0,
            2, 0, 0, 5, 1, 0,
            2, 0, 0, 5, 1, 1,
            2, 0, 0, 6, 0, 0,
            1, 0, 0, 0, 0, 0,
            1, 0, 0, 6, 0, 0,
            1, 0, 0, 7, 1, 1,
            2, 0, 0, 0, 0, 0,
            2, 0, 0, 6, 0, 0,
            2, 0, 0, 7, 0, 0,
            1, 0, 0, 0, 0, 0,
            1, 0, 0, 6, 0, 0,
        };

        // members[8 y + x]: the cells of the ORBIT whose first cell is (x, y); none for cells that are no first.
        private final long[] members = new long[PLACES];
        private int size;

        private static int maker(int cls, int part) {
            int at = 6 * cls + part;
            return at >= 0 && at < MAKERS.length ? MAKERS[at] : 0;
        }

        /** False: halves of an odd n. */
        static boolean fits(int cls, int n) {
            int halves = maker(cls, 1) + maker(cls, 2) + maker(cls, 4) + maker(cls, 5);
            return halves == 0 || n % 2 == 0;
        }

        long startingAt(int place) {
            return place >= 0 && place < members.length ? members[place] : 0L;
        }

        void split(int cls, int n) {
            long passed = 0L;
            size = 0;
            for (int place = 0; place < members.length; place++) {
                boolean inside = place / SIDE < n && place % SIDE < n;
                members[place] = 0L;
                if (inside && ((passed >>> place) & 1L) == 0L) {
                    members[place] = closed(cls, n, 1L << place);
                    passed |= members[place];
                    size++;
                }
            }
        }

        // Each round but the last brings a cell at least, so that there are never more rounds than cells.
        private static long closed(int cls, int n, long from) {
            long cells = from;
            for (int round = 0; round < PLACES; round++) {
                long before = cells;
                for (int place = 0; place < PLACES; place++) {
                    if (((cells >>> place) & 1L) != 0L) {
                        cells |= brought(cls, 0, n, place) | brought(cls, 3, n, place);
                    }
                }
                if (cells == before) {
                    return cells;
                }
            }
            return cells;
        }

        private static long brought(int cls, int part, int n, int place) {
            boolean hex = cls >= FIRST_HEX_CLASS;
            int turning = maker(cls, part);
            int x = Net.turnedX(hex, turning, place % SIDE, place / SIDE) + maker(cls, part + 1) * (n / 2);
            int y = Net.turnedY(hex, turning, place % SIDE, place / SIDE) + maker(cls, part + 2) * (n / 2);
            return Tile.bit(rest(x, n), rest(y, n));
        }

        long withCell(int x, int y) {
            long cell = Tile.bit(x, y);
            for (int place = 0; place < members.length; place++) {
                if ((members[place] & cell) != 0L) {
                    return members[place];
                }
            }
            return 0L;
        }

        int flawsOf(Tile tile) {
            int flaws = 0;
            for (int place = 0; place < members.length; place++) {
                long cells = members[place];
                if (cells != 0L) {
                    flaws += Long.bitCount(cells & ~tile.ofColour(tile.mostlyOf(cells)));
                }
            }
            return flaws;
        }
    }

    /** THE TEXT, and what the latest reading found wrong. */
    private static final class Script {
        private static final int MOST_BYTES = 200;

        private final int[] bytes = new int[MOST_BYTES];
        private int length;
        private int fault;
        private int place = NONE;
        private int rows;

        void copyFrom(Script other) {
            for (int k = 0; k < bytes.length && k < other.bytes.length; k++) {
                bytes[k] = other.bytes[k];
            }
            length = other.length;
            fault = other.fault;
            place = other.place;
        }

        int append(long eight) {
            int more = 0;
            while (more < 8 && byteOf(eight, more) != 0) {
                more++;
            }
            if (length + more > MOST_BYTES) {
                return NONE;
            }
            for (int k = 0; k < more && length < bytes.length; k++) {
                bytes[length] = byteOf(eight, k);
                length++;
            }
            return length;
        }

        private static int byteOf(long eight, int k) {
            return (int) (eight >>> (56 - 8 * k)) & 255;
        }

        /** 0, which no text holds, behind the end. */
        private int byteAt(int at) {
            return at >= 0 && at < length && at < bytes.length ? bytes[at] : 0;
        }

        /** False: there is a FAULT, and what the tile holds is of no use. */
        boolean readInto(Tile told) {
            told.clear(1, 1, false);
            fault = 0;
            place = NONE;
            rows = 0;
            int misfit = firstMisfit(told);
            if (misfit != NONE) {
                fault = 1;
                place = misfit;
            }
            length = 0;
            return fault == 0;
        }

        /** The place of FAULT 1, or NONE; FAULTS 2 and 3 are noted on the way. */
        private int firstMisfit(Tile told) {
            boolean signDue = false;
            int end = 0;
            for (int at = 0; at < length; at = Math.max(at + 1, end)) {
                int sign = byteAt(at);
                if (isLetter(sign)) {
                    end = wordEnd(at);
                    if (signDue || !takesWord(told, at, end)) {
                        return at;
                    }
                    signDue = true;
                } else if (sign == ';' && signDue) {
                    signDue = false;
                } else if (sign != ' ' && sign != '\n') {
                    return at;
                }
            }
            return signDue || rows == 0 ? length : NONE;
        }

        private static boolean isLetter(int sign) {
            return sign >= 'a' && sign <= 'z';
        }

        private int wordEnd(int from) {
            int end = from;
            while (end < length && isLetter(byteAt(end))) {
                end++;
            }
            return end;
        }

        private boolean takesWord(Tile told, int from, int end) {
            boolean hex = isWord("hex", from, end);
            if (hex || isWord("square", from, end)) {
                told.hex = hex;
                return true;
            }
            if (!isRow(from, end)) {
                return false;
            }
            rows++;
            takeRow(told, from, end);
            return true;
        }

        private boolean isWord(String word, int from, int end) {
            if (end - from != word.length()) {
                return false;
            }
            for (int k = 0; k < word.length(); k++) {
                if (byteAt(from + k) != word.charAt(k)) {
                    return false;
                }
            }
            return true;
        }

        private boolean isRow(int from, int end) {
            for (int at = from; at < end; at++) {
                if (byteAt(at) > 'd') {
                    return false;
                }
            }
            return end - from <= SIDE;
        }

        private void takeRow(Tile told, int from, int end) {
            if (rows == 1) {
                told.wide = end - from;
            }
            if (fault == 0 && rows > SIDE) {
                fault = 3;
                place = from;
            }
            if (fault == 0 && end - from != told.wide) {
                fault = 2;
                place = from;
            }
            if (fault == 0) {
                told.high = rows;
                for (int at = from; at < end; at++) {
                    told.colourCells(Tile.bit(at - from, rows - 1), byteAt(at) - 'a');
                }
            }
        }
    }

    /** All that an image keeps. */
    private static final class Page {
        private final Tile tile = new Tile();
        private final Script script = new Script();
        private boolean filled;

        void copyFrom(Page other) {
            tile.copyFrom(other.tile);
            script.copyFrom(other.script);
        }
    }

    /** The tiles ahead of the latest acts, in a ring. */
    private static final class Past {
        private static final int MOST = 8;

        private final Tile[] tiles = new Tile[MOST];
        private int next;
        private int size;

        Past() {
            for (int k = 0; k < tiles.length; k++) {
                tiles[k] = new Tile();
            }
        }

        void clear() {
            size = 0;
        }

        void keep(Tile tile) {
            if (next >= 0 && next < tiles.length && tiles[next] != null) {
                tiles[next].copyFrom(tile);
                next = (next + 1) % MOST;
                size = Math.min(size + 1, MOST);
            }
        }

        /** The tile becomes what it was ahead of the latest act. False: there is none. */
        boolean giveBack(Tile tile) {
            int latest = (next + MOST - 1) % MOST;
            if (size == 0 || latest < 0 || latest >= tiles.length || tiles[latest] == null) {
                return false;
            }
            tile.copyFrom(tiles[latest]);
            next = latest;
            size--;
            return true;
        }
    }
}
