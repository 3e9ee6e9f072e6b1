import java.util.NoSuchElementException;

/** Each sentence of the promises that names an edge, with a test of its own. */
public final class EdgesOfPromisesTest extends Checks {
    // No TURNING but 0 leaves it, nor any step within it.
    private static final String WILD =
        "abcdabca;bbaadacb;cacbddab;adbcabca;daacbbcd;acdbabda;bcadcbba;cdbaabcd;";
    private static final String ALIKE_6 = "aaaaaa;aaaaaa;aaaaaa;aaaaaa;aaaaaa;aaaaaa;";

    public static void main(String[] args) {
        newObject();
        tell();
        read();
        fault();
        paint();
        shift();
        turn();
        dye();
        net();
        make();
        makeRefused();
        mend();
        reduce();
        undo();
        count();
        countOfFlips();
        cell();
        step();
        shifts();
        flip();
        centre();
        kind();
        strip();
        coloured();
        like();
        flaws();
        orbit();
        nearest();
        painted();
        better();
        image();
        again();
        end();
    }

    private static void newObject() {
        promise(1);
        edge("The TILE as at first.", () -> {
            OrnamentDesk desk = new OrnamentDesk();
            shows("4 by 4, 0, SQUARE", desk, AT_FIRST);
            due("nothing to be UNDONE", desk.undo(), NONE);
            due("THE TEXT is empty", desk.count(13), 0);
            due("no FAULT", desk.fault(false), 0);
            for (int k = 0; k < 3; k++) {
                due("no image", desk.like(k), -2);
            }
            OrnamentDesk other = new OrnamentDesk();
            other.paint(0, 0, 1);
            shows("no other object's", desk, AT_FIRST);
        });
    }

    private static OrnamentDesk withBytes(int bytes) {
        OrnamentDesk desk = new OrnamentDesk();
        say(desk, "a".repeat(bytes));
        return desk;
    }

    private static void tell() {
        promise(2);
        edge("those of eight, the highest first", () -> {
            OrnamentDesk desk = new OrnamentDesk();
            desk.tell(0x6162636461623b00L);
            desk.read();
            shows("in their order", desk, "abcdab;");
        });
        edge("up to the first one that is 0", () -> {
            OrnamentDesk desk = new OrnamentDesk();
            due("the highest is 0", desk.tell(0x00ffffffffffffffL), 0);
            due("the second is 0", desk.tell(0x6100616161616161L), 1);
            due("the lowest is 0", desk.tell(0x6161616161616100L), 8);
            due("none is 0", desk.tell(0x6161616161616161L), 16);
            due("bytes of 255", desk.tell(-1L), 24);
            due("bytes of 128", desk.tell(0x8080000000000000L), 26);
            due("0", desk.tell(0L), 26);
        });
        edge("how many THE TEXT has", () -> {
            due("the first 8", new OrnamentDesk().tell(eight("abcdabcd")), 8);
            due("behind 8", withBytes(8).tell(eight("abc")), 11);
            due("behind 192", withBytes(192).tell(eight("abcdabcd")), 200);
        });
        edge("NONE, and nothing comes, if it would have more than 200.", () -> {
            OrnamentDesk desk = withBytes(193);
            due("201", desk.tell(eight("bbbbbbbb")), NONE);
            due("nothing came", desk.count(13), 193);
            due("200", desk.tell(eight("bbbbbbb")), 200);
            due("one more", desk.tell(eight("b")), NONE);
            due("eight more", desk.tell(-1L), NONE);
            due("none more", desk.tell(0L), 200);
            due("200 still", desk.count(13), 200);
            // Of what was refused no byte came: the text would else not be read.
            desk = new OrnamentDesk();
            say(desk, " ".repeat(196));
            due("201", desk.tell(eight("?????")), NONE);
            due("198", desk.tell(eight("c;")), 198);
            due("read()", desk.read(), 1);
        });
    }

    private static void read() {
        promise(3);
        edge("THE TEXT is read (it is empty then)", () -> {
            OrnamentDesk desk = desk("ab;");
            due("bytes", desk.count(13), 0);
            due("read() of the empty one", desk.read(), NONE);
            due("its FAULT", desk.fault(false), 1);
            due("its place", desk.fault(true), 0);
            due("200 bytes have room anew", withBytesRead(200).tell(-1L), 8);
        });
        edge("(SQUARE, if neither is)", () -> {
            OrnamentDesk desk = desk("hex;ab;");
            say(desk, "cd;");
            desk.read();
            shows("HEX is forgotten", desk, "cd;");
        });
        edge("how many CELLS", () -> {
            OrnamentDesk desk = new OrnamentDesk();
            say(desk, "a;");
            due("1", desk.read(), 1);
            say(desk, WILD);
            due("64", desk.read(), 64);
            say(desk, "a;b;c;d;a;b;c;d;");
            due("1 by 8", desk.read(), 8);
            say(desk, "abcdabcd;");
            due("8 by 1", desk.read(), 8);
        });
        edge("NONE: a FAULT (all but THE TEXT, the FAULT stays).", () -> {
            OrnamentDesk desk = desk("hex;ab;cd;");
            desk.image(1);
            desk.paint(0, 0, 3);
            say(desk, "square;aaa;bb;");
            due("read()", desk.read(), NONE);
            shows("the TILE, the NET", desk, "hex;db;cd;");
            due("THE TEXT is empty", desk.count(13), 0);
            due("the FAULT", desk.fault(false), 2);
            due("ACTS", desk.count(12), 1);
            due("undo()", desk.undo(), 0);
            due("the image", desk.like(1), 0);
        });
    }

    private static OrnamentDesk withBytesRead(int bytes) {
        OrnamentDesk desk = withBytes(bytes);
        desk.read();
        return desk;
    }

    private static void fault() {
        promise(4);
        edge("its FAULT (0 without, and at first)", () -> {
            OrnamentDesk desk = new OrnamentDesk();
            due("at first", desk.fault(false), 0);
            desk.read();
            due("with one", desk.fault(false), 1);
            say(desk, "a;");
            desk.read();
            due("without", desk.fault(false), 0);
        });
        edge("or (place) its place (NONE without)", () -> {
            OrnamentDesk desk = new OrnamentDesk();
            due("at first", desk.fault(true), NONE);
            desk.read();
            due("at 0", desk.fault(true), 0);
            say(desk, "a;");
            desk.read();
            due("without", desk.fault(true), NONE);
        });
        edge("Of the latest read()", () -> {
            OrnamentDesk desk = new OrnamentDesk();
            say(desk, "a;bb;");
            desk.read();
            due("2", desk.fault(false), 2);
            desk.net(true);
            desk.undo();
            say(desk, "?");
            due("no read() as yet", desk.fault(false), 2);
            due("its place", desk.fault(true), 2);
            desk.read();
            due("the later one", desk.fault(false), 1);
            due("its place", desk.fault(true), 0);
        });
    }

    private static void paint() {
        promise(5);
        edge("A CELL of the TILE has another COLOUR: true.", () -> {
            OrnamentDesk desk = desk(WILD);
            yes("the last CELL of 8 by 8", desk.paint(7, 7, 0));
            due("it", desk.cell(7, 7), 0);
            yes("the first", desk.paint(0, 0, 3));
            due("it", desk.cell(0, 0), 3);
            yes("to 0", desk.paint(0, 0, 0));
        });
        edge("false: it has it", () -> {
            no("0", new OrnamentDesk().paint(3, 3, 0));
            no("3", desk("abcd;").paint(3, 0, 3));
        });
        edge("there is no such CELL, COLOUR.", () -> {
            OrnamentDesk desk = desk("abc;dda;");
            no("x 3", desk.paint(3, 0, 1));
            no("x -1", desk.paint(-1, 0, 1));
            no("y 2", desk.paint(0, 2, 1));
            no("y -1", desk.paint(0, -1, 1));
            no("COLOUR 4", desk.paint(0, 0, 4));
            no("COLOUR -1", desk.paint(0, 0, -1));
            for (int far : FAR) {
                no("far off", desk.paint(far, 0, 1) || desk.paint(0, far, 1) || desk.paint(0, 0, far));
            }
            shows("nothing painted", desk, "abc;dda;");
            due("ACTS", desk.count(12), 0);
        });
    }

    private static void shift() {
        promise(6);
        edge("-100 to 100 each", () -> {
            yes("x 100", desk("abc;").shift(100, 0));
            yes("x -100", desk("abc;").shift(-100, 0));
            yes("y 100", desk("a;b;c;").shift(0, 100));
            yes("y -100", desk("a;b;c;").shift(0, -100));
        });
        edge("what was at (0, 0) is at it (by the remainders)", () -> {
            OrnamentDesk desk = desk("abc;ddd;");
            desk.shift(1, 0);
            shows("(1, 0)", desk, "cab;ddd;");
            desk.shift(-2, 1);
            shows("(-2, 1) behind it", desk, "ddd;bca;");
            desk.shift(100, -99);
            shows("(100, -99) behind it", desk, "abc;ddd;");
            desk = desk("abcdaabb;");
            desk.shift(-1, 5);
            shows("8 COLUMNS", desk, "bcdaabba;");
            desk = desk("a;b;c;d;a;a;b;b;");
            desk.shift(3, 7);
            shows("8 ROWS", desk, "b;c;d;a;a;b;b;a;");
        });
        edge("false: others;", () -> {
            OrnamentDesk desk = desk("abc;ddd;");
            no("x 101", desk.shift(101, 0));
            no("x -101", desk.shift(-101, 0));
            no("y 101", desk.shift(0, 101));
            no("y -101", desk.shift(0, -101));
            for (int far : FAR) {
                no("far off", desk.shift(far, 1) || desk.shift(1, far));
            }
            shows("nothing went", desk, "abc;ddd;");
            due("ACTS", desk.count(12), 0);
        });
        edge("the TILE stays as it is by it.", () -> {
            no("(0, 0)", desk("abc;").shift(0, 0));
            no("WIDE", desk("abc;").shift(-99, 50));
            no("a STEP", desk("ab;ba;").shift(1, 1));
            no("all alike", new OrnamentDesk().shift(1, 2));
            no("1 by 1", desk("d;").shift(100, -100));
            yes("no STEP", desk("ab;ba;").shift(1, 0));
        });
    }

    private static void turn() {
        promise(7);
        edge("All CELLS go by a TURNING (what was at (1, 0) is where that brings it): true.", () -> {
            OrnamentDesk desk = desk("abaa;aaaa;aaaa;aaaa;");
            yes("1", desk.turn(1));
            due("at (0, 1)", desk.cell(0, 1), 1);
            yes("1 again", desk.turn(1));
            due("at (-1, 0)", desk.cell(3, 0), 1);
            desk.net(true);
            yes("HEX 1", desk.turn(1));
            due("at (0, -1)", desk.cell(0, 3), 1);
            desk = desk("hex;abaa;aaaa;aaaa;aaaa;");
            yes("HEX 11, the last", desk.turn(11));
            due("at (-1, 1)", desk.cell(3, 1), 1);
            due("and nowhere else", desk.count(21), 1);
        });
        edge("false: another one;", () -> {
            OrnamentDesk desk = desk("ab;cd;");
            no("-1", desk.turn(-1));
            no("8 of SQUARE", desk.turn(8));
            no("11 of SQUARE", desk.turn(11));
            for (int far : FAR) {
                no("far off", desk.turn(far));
            }
            desk.net(true);
            yes("8 of HEX", desk.turn(8));
            no("12 of HEX", desk.turn(12));
            due("ACTS", desk.count(12), 2);
        });
        edge("COLUMNS are not as many as ROWS;", () -> {
            no("2 by 1", desk("ab;").turn(6));
            no("3 by 2", desk("abc;dda;").turn(2));
            no("1 by 8", desk("a;b;c;d;a;a;b;b;").turn(2));
        });
        edge("the TILE stays as it is by it.", () -> {
            no("0", desk(WILD).turn(0));
            no("all alike", new OrnamentDesk().turn(1));
            no("1 by 1", desk("hex;d;").turn(5));
            no("a MIRROR through (0, 0)", desk("abc;bda;cab;").turn(6));
            // It is a MIRROR, but not through (0, 0).
            OrnamentDesk desk = desk("abc;bda;cab;");
            desk.shift(1, 0);
            yes("a MIRROR elsewhere", desk.turn(6));
        });
    }

    private static void dye() {
        promise(8);
        edge("Two COLOURS change places: true.", () -> {
            OrnamentDesk desk = desk("abcd;");
            yes("0 and 3", desk.dye(0, 3));
            shows("0 and 3", desk, "dbca;");
            yes("one that no CELL has", desk("aab;").dye(3, 1));
        });
        edge("false: others;", () -> {
            OrnamentDesk desk = desk("abcd;");
            no("4", desk.dye(4, 0));
            no("4", desk.dye(0, 4));
            no("-1", desk.dye(-1, 0));
            no("-1", desk.dye(0, -1));
            for (int far : FAR) {
                no("far off", desk.dye(far, 0) || desk.dye(0, far) || desk.dye(far, far));
            }
            shows("nothing dyed", desk, "abcd;");
            due("ACTS", desk.count(12), 0);
        });
        edge("the TILE stays as it is by it.", () -> {
            no("one with itself", desk("abcd;").dye(2, 2));
            no("two that no CELL has", desk("ab;").dye(2, 3));
        });
    }

    private static void net() {
        promise(9);
        edge("The NET is HEX, or SQUARE: true.", () -> {
            OrnamentDesk desk = desk("ab;cd;");
            yes("HEX", desk.net(true));
            shows("the CELLS stay", desk, "hex;ab;cd;");
            yes("SQUARE", desk.net(false));
            shows("the CELLS stay", desk, "ab;cd;");
        });
        edge("false: it is so already.", () -> {
            OrnamentDesk desk = desk("hex;ab;cd;");
            no("HEX", desk.net(true));
            due("ACTS", desk.count(12), 0);
            no("SQUARE at first", new OrnamentDesk().net(false));
        });
    }

    private static void make() {
        promise(10);
        edge("a class, 0 to 16", () -> {
            due("0", new OrnamentDesk().make(0, 2, 2, 1), 4);
            due("16", new OrnamentDesk().make(16, 2, 2, 1), 2);
            due("-1", new OrnamentDesk().make(-1, 2, 2, 1), NONE);
            due("17", new OrnamentDesk().make(17, 2, 2, 1), NONE);
        });
        edge("with n COLUMNS and ROWS, 1 to 8", () -> {
            OrnamentDesk desk = new OrnamentDesk();
            due("1", desk.make(0, 1, 4, 1), 1);
            due("WIDE", desk.count(0), 1);
            due("HIGH", desk.count(1), 1);
            due("8", desk.make(0, 8, 4, 1), 64);
            due("WIDE", desk.count(0), 8);
            due("HIGH", desk.count(1), 8);
            due("0", desk.make(0, 0, 4, 1), NONE);
            due("9", desk.make(0, 9, 4, 1), NONE);
        });
        edge("the NET as the class wants it", () -> {
            OrnamentDesk desk = desk("hex;ab;");
            desk.make(11, 2, 2, 1);
            due("p4g", desk.count(2), 0);
            desk.make(12, 2, 2, 1);
            due("p3", desk.count(2), 1);
            desk.make(0, 2, 2, 1);
            due("p1", desk.count(2), 0);
        });
        edge("ORBIT by ORBIT, by its first CELL (the least y, then the least x)", () -> {
            OrnamentDesk desk = new OrnamentDesk();
            desk.make(0, 8, 4, 5);
            int x = 5;
            for (int k = 0; k < 64; k++) {
                x = x * 1103515245 + 12345;
                due("p1, CELL " + k, desk.cell(k % 8, k / 8), (x >>> 16) % 4);
            }
            // cm of 3: (0, 0); (1, 0) and (0, 1); (2, 0) and (0, 2); (1, 1); (2, 1) and (1, 2); (2, 2).
            desk.make(4, 3, 4, 9);
            int[][] cells = {{0, 0, 0, 0}, {1, 0, 0, 1}, {2, 0, 0, 2}, {1, 1, 1, 1}, {2, 1, 1, 2}, {2, 2, 2, 2}};
            x = 9;
            for (int[] cell : cells) {
                x = x * 1103515245 + 12345;
                due("cm", desk.cell(cell[0], cell[1]), (x >>> 16) % 4);
                due("cm", desk.cell(cell[2], cell[3]), (x >>> 16) % 4);
            }
        });
        edge("one below colours, 1 to 4, is DRAWN by a SEED", () -> {
            OrnamentDesk desk = new OrnamentDesk();
            for (int seed : FAR) {
                due("SEED " + seed, desk.make(0, 8, 1, seed), 64);
                due("below 1", desk.count(20), 64);
                desk.make(0, 8, 2, seed);
                due("below 2", desk.count(20) + desk.count(21), 64);
                desk.make(0, 8, 4, seed);
                due("below 4", desk.count(11), 4);
            }
            due("0", desk.make(0, 8, 0, 1), NONE);
            due("5", desk.make(0, 8, 5, 1), NONE);
        });
        edge("how many ORBITS", () -> {
            int[] of2 = {4, 4, 4, 2, 3, 4, 2, 2, 3, 3, 3, 2, 2, 2, 2, 2, 2};
            for (int cls = 0; cls < 17; cls++) {
                due("class " + cls + " of 2", new OrnamentDesk().make(cls, 2, 4, 1), of2[cls]);
            }
            due("p6m of 1", new OrnamentDesk().make(16, 1, 4, 1), 1);
            due("p4m of 8", new OrnamentDesk().make(10, 8, 4, 1), 15);
        });
    }

    private static void makeRefused() {
        promise(10);
        edge("NONE: others, halves of an odd n.", () -> {
            OrnamentDesk desk = desk("hex;ab;cd;");
            for (int cls : new int[] {3, 6, 7, 11}) {
                for (int n = 1; n <= 7; n += 2) {
                    due("class " + cls + " of " + n, desk.make(cls, n, 4, 1), NONE);
                }
            }
            for (int far : FAR) {
                due("class " + far, desk.make(far, 2, 2, 1), NONE);
                due("n " + far, desk.make(1, far, 2, 1), NONE);
                due("colours " + far, desk.make(1, 2, far, 1), NONE);
            }
            due("colours -1", desk.make(1, 2, -1, 1), NONE);
            due("n -1", desk.make(1, -1, 2, 1), NONE);
            shows("nothing made", desk, "hex;ab;cd;");
            due("ACTS", desk.count(12), 0);
        });
    }

    private static void mend() {
        promise(11);
        edge("Each ORBIT of a class has the COLOUR that most of its CELLS have, of several the least: its FLAWS.", () -> {
            // p4 of 3 by 3: (0, 0); (1, 0) (0, 1) (2, 0) (0, 2); the four others.
            OrnamentDesk desk = desk("adc;dda;dad;");
            due("one and two", desk.mend(9), 3);
            shows("most d; a and d as many", desk, "add;daa;daa;");
            desk = desk("dcb;acc;dba;");
            due("all unlike, and two of c", desk.mend(9), 5);
            shows("the least; c", desk, "daa;acc;acc;");
            desk = desk("bc;ac;");
            due("pg, (0, 0) too", desk.mend(3), 1);
            shows("pg, (0, 0) too", desk, "ac;ac;");
        });
        edge("NONE: as flaws();", () -> {
            OrnamentDesk desk = desk("abc;dda;bca;");
            for (int cls : new int[] {-1, 3, 6, 7, 11, 12, 16, 17}) {
                due("mend(" + cls + ")", desk.mend(cls), NONE);
            }
            for (int far : FAR) {
                due("far off", desk.mend(far), NONE);
            }
            shows("nothing mended", desk, "abc;dda;bca;");
            due("HEX, class 11", desk("hex;ab;cd;").mend(11), NONE);
            due("3 by 2", desk("abc;dda;").mend(1), NONE);
        });
        edge("0 leaves nothing to be UNDONE.", () -> {
            OrnamentDesk desk = desk("ab;aa;");
            due("p1 has none", desk.mend(0), 0);
            due("ACTS", desk.count(12), 0);
            due("undo()", desk.undo(), NONE);
            desk.mend(9);
            due("mended", desk.mend(9), 0);
            due("the mend() ahead of it", desk.count(12), 1);
            due("undo()", desk.undo(), 0);
            shows("undo()", desk, "ab;aa;");
        });
    }

    private static void reduces(String text, int cells, String want) {
        OrnamentDesk desk = desk(text);
        due("reduce() of " + text, desk.reduce(), cells);
        shows("reduce() of " + text, desk, want);
        due("ACTS of " + text, desk.count(12), cells == NONE ? 0 : 1);
    }

    private static void reduce() {
        promise(12);
        edge("The TILE has as many COLUMNS as the least STEP (x, 0) with x above 0 has x", () -> {
            reduces("aaaaaaaa;", 1, "a;");
            reduces("abcdabcd;", 4, "abcd;");
            reduces("abcabc;cabcab;", 6, "abc;cab;");
        });
        edge("as many ROWS as the least STEP (0, y) with y above 0 has y", () -> {
            reduces("a;a;a;a;a;a;a;a;", 1, "a;");
            reduces("a;b;c;d;a;b;c;d;", 4, "a;b;c;d;");
            reduces("abc;dda;abc;dda;", 6, "abc;dda;");
        });
        edge("from its first ones on", () -> {
            reduces("hex;dcdc;baba;dcdc;baba;", 4, "hex;dc;ba;");
        });
        edge("how many CELLS", () -> {
            due("1", new OrnamentDesk().reduce(), 1);
            due("32", desk("abcdaabb;bacdaabb;abcdaabb;aacdaabb;abcdaabb;bacdaabb;abcdaabb;aacdaabb;").reduce(), 32);
        });
        edge("NONE: it has so many already.", () -> {
            reduces("d;", NONE, "d;");
            reduces(WILD, NONE, WILD);
            reduces("ab;ba;", NONE, "ab;ba;");
            reduces("abab;baba;", 4, "ab;ba;");
            reduces("abcdaabb;", NONE, "abcdaabb;");
        });
    }

    private static void act(OrnamentDesk desk, int which) {
        switch (which) {
            case 0: yes("paint()", desk.paint(0, 0, 3)); break;
            case 1: yes("shift()", desk.shift(1, 1)); break;
            case 2: yes("turn()", desk.turn(6)); break;
            case 3: yes("dye()", desk.dye(0, 1)); break;
            case 4: yes("net()", desk.net(false)); break;
            default: due("mend()", desk.mend(16), 4);
        }
    }

    private static void undo() {
        promise(13);
        edge("The latest ACT is UNDONE: how many more can be.", () -> {
            OrnamentDesk desk = desk("abcd;");
            desk.dye(0, 1);
            desk.reduce();
            desk.net(true);
            due("undo()", desk.undo(), 1);
            shows("the NET", desk, "bacd;");
            desk.paint(0, 0, 2);
            due("another ACT behind it", desk.undo(), 1);
            due("undo()", desk.undo(), 0);
            shows("all", desk, "abcd;");
            // Of what was UNDONE nothing comes into a later ACT.
            String[] dues = {"hex;dbc;dda;aab;", "hex;baa;cab;add;", "hex;ada;bda;cab;", "hex;bac;ddb;bba;", "abc;dda;aab;",
                "hex;aaa;aba;aab;"};
            for (int act = 0; act < dues.length; act++) {
                desk = desk("hex;abc;dda;aab;");
                desk.make(11, 8, 4, 6);
                desk.undo();
                act(desk, act);
                shows("ACT " + act + " behind it", desk, dues[act]);
            }
        });
        edge("NONE: none can.", () -> {
            due("at first", new OrnamentDesk().undo(), NONE);
            due("behind read()", desk("ab;").undo(), NONE);
            OrnamentDesk desk = new OrnamentDesk();
            for (int k = 0; k < 20; k++) {
                desk.paint(k % 4, 0, 1 + k / 4 % 3);
            }
            for (int k = 0; k < 3; k++) {
                due("undo()", desk.undo(), 7 - k);
            }
            for (int k = 0; k < 5; k++) {
                desk.paint(k % 4, 1, 1 + k / 4);
            }
            due("full anew", desk.count(12), 8);
            for (int k = 0; k < 8; k++) {
                due("undo()", desk.undo(), 7 - k);
            }
            due("the 9th", desk.undo(), NONE);
            // 20 painted, 3 UNDONE, and 3 of the 17 left can still be: 14 are there for good.
            shows("14 painted", desk, "bbdd;aaaa;aaaa;aaaa;");
        });
    }

    private static void countIs(String text, int what, int want) {
        due("count(" + what + ") of " + text, desk(text).count(what), want);
    }

    private static void count() {
        promise(14);
        edge("What 0: WIDE, 1: HIGH, 2: 1 if the NET is HEX, else 0", () -> {
            countIs("abcdabcd;", 0, 8);
            countIs("abcdabcd;", 1, 1);
            countIs("abcdabcd;", 2, 0);
            countIs("hex;a;b;c;d;a;b;c;d;", 0, 1);
            countIs("hex;a;b;c;d;a;b;c;d;", 1, 8);
            countIs("hex;a;b;c;d;a;b;c;d;", 2, 1);
        });
        edge("3: SPAN, 4: MOTIF", () -> {
            countIs(WILD, 3, 1);
            countIs(WILD, 4, 64);
            countIs(AT_FIRST, 3, 16);
            countIs(AT_FIRST, 4, 1);
            countIs("abcd;cdab;", 3, 2);
            countIs("abcd;cdab;", 4, 4);
        });
        edge("5: ORDER, 6: CLASS", () -> {
            countIs(WILD, 5, 1);
            countIs(WILD, 6, 0);
            countIs("hex;d;", 5, 6);
            countIs("hex;d;", 6, 16);
        });
        edge("10: KINDS, 11: COLOURS that any CELL has", () -> {
            countIs(WILD, 10, 64);
            countIs(WILD, 11, 4);
            countIs("d;", 10, 1);
            countIs("d;", 11, 1);
            countIs("bdbd;", 11, 2);
        });
        edge("12: ACTS that can be UNDONE, 13: bytes of THE TEXT", () -> {
            due("8 ACTS", inState(1).count(12), 8);
            due("none", new OrnamentDesk().count(12), 0);
            due("7 bytes", inState(1).count(13), 7);
            due("200 bytes", withBytes(200).count(13), 200);
            due("none", new OrnamentDesk().count(13), 0);
        });
        edge("14: TURNINGS that have SHIFTS (bits)", () -> {
            countIs(WILD, 14, 1);
            countIs("d;", 14, 255);
            countIs("hex;d;", 14, 4095);
            countIs("ab;", 14, 1 + 4 + 16 + 32);
            countIs("hex;ab;", 14, 1 + 8 + 1024 + 2048);
        });
        edge("20 + c: CELLS of the TILE of a COLOUR", () -> {
            countIs("hex;abcb;", 20, 1);
            countIs("hex;abcb;", 21, 2);
            countIs("hex;abcb;", 22, 1);
            countIs("hex;abcb;", 23, 0);
            countIs("dddddddd;dddddddd;", 23, 16);
        });
        edge("NONE for another what.", () -> {
            for (int what : new int[] {-1, -2, 15, 16, 17, 18, 19, 24, 25, 84, 276}) {
                countIs("ab;ba;", what, NONE);
            }
            for (int far : FAR) {
                countIs("ab;ba;", far, NONE);
            }
        });
    }

    private static void countOfFlips() {
        promise(14);
        edge("7: FLIPS that are MIRRORS, 8: GLIDES", () -> {
            countIs(WILD, 7, 0);
            countIs(WILD, 8, 0);
            countIs("abcd;aabc;adcb;acba;", 7, 0);
            countIs("abcd;aabc;adcb;acba;", 8, 1);
            countIs("aabb;abba;", 7, 1);
            countIs("aabb;abba;", 8, 1);
            countIs("d;", 7, 4);
            countIs("hex;d;", 7, 6);
            countIs("hex;d;", 8, 0);
        });
        edge("9: FLIPS that have SHIFTS and are CROSSED", () -> {
            countIs(WILD, 9, 0);
            countIs("ab;", 9, 0);
            countIs("d;", 9, 2);
            countIs("hex;d;", 9, 6);
            countIs("baaa;aaba;", 9, 2);
        });
    }

    private static void cell() {
        promise(15);
        edge("The COLOUR of a CELL of the PLANE, any x, y.", () -> {
            OrnamentDesk desk = desk("abc;dab;");
            for (int far : FAR) {
                due("x far off", desk.cell(far, 0), Math.floorMod(far, 3));
                due("y far off", desk.cell(0, far), Math.floorMod(far, 2) == 0 ? 0 : 3);
                due("both far off", desk.cell(far, far), desk.cell(Math.floorMod(far, 3), Math.floorMod(far, 2)));
            }
            due("1 by 1", desk("d;").cell(Integer.MIN_VALUE, Integer.MAX_VALUE), 3);
        });
    }

    private static boolean stepThrows(OrnamentDesk desk, boolean second, int what) {
        try {
            desk.step(second, what);
            return false;
        } catch (NoSuchElementException none) {
            return true;
        }
    }

    private static void step() {
        promise(16);
        edge("FIRST, or (second) SECOND, what 0: x, 1: y, 2: LONG.", () -> {
            OrnamentDesk desk = desk("abcd;cdab;");
            int[] dues = {0, 2, 4, 2, 1, 5};
            for (int k = 0; k < 6; k++) {
                due("step(" + (k >= 3) + ", " + k % 3 + ")", desk.step(k >= 3, k % 3), dues[k]);
            }
            due("a y below 0", desk("hex;d;").step(true, 1), -1);
            desk = desk("hex;ab;");
            due("of the TILE now", desk.step(true, 2), 3);
            desk.paint(0, 0, 1);
            due("of the TILE now", desk.step(true, 2), 1);
            desk.undo();
            due("of the TILE now", desk.step(true, 2), 3);
        });
        edge("NoSuchElementException: another what.", () -> {
            for (int what : new int[] {-1, 3, 4, Integer.MIN_VALUE, Integer.MAX_VALUE}) {
                yes("FIRST, " + what, stepThrows(desk("ab;"), false, what));
                yes("SECOND, " + what, stepThrows(desk("ab;"), true, what));
                changesNothing("step(" + what + ")", d -> stepThrows(d, true, what));
            }
        });
    }

    private static void shifts() {
        promise(17);
        edge("How many SHIFTS a TURNING has (k NONE, what 0)", () -> {
            due("none", desk(WILD).shifts(7, NONE, 0), 0);
            due("one", desk(WILD).shifts(0, NONE, 0), 1);
            due("16", new OrnamentDesk().shifts(7, NONE, 0), 16);
            due("HEX 11", desk("hex;d;").shifts(11, NONE, 0), 1);
        });
        edge("of the k-th (y rising, then x), what 0: x, 1: y", () -> {
            OrnamentDesk desk = desk("aaa;aaa;");
            for (int k = 0; k < 6; k++) {
                due("x of " + k, desk.shifts(2, k, 0), k % 3);
                due("y of " + k, desk.shifts(2, k, 1), k / 3);
            }
        });
        edge("-2: there is none such, another what.", () -> {
            OrnamentDesk desk = desk("ab;ba;");
            due("k 2 of 2", desk.shifts(0, 2, 0), -2);
            due("k 0 of none", desk(WILD).shifts(2, 0, 1), -2);
            due("k NONE, what 1", desk.shifts(0, NONE, 1), -2);
            due("k -2", desk.shifts(0, -2, 0), -2);
            due("TURNING -1", desk.shifts(-1, NONE, 0), -2);
            due("TURNING 8 of SQUARE", desk.shifts(8, NONE, 0), -2);
            due("TURNING 12 of HEX", desk("hex;d;").shifts(12, NONE, 0), -2);
            due("what 2", desk.shifts(0, 0, 2), -2);
            due("what -1", desk.shifts(0, 0, -1), -2);
            due("what 2, k NONE", desk.shifts(0, NONE, 2), -2);
            due("what -1, k NONE", desk.shifts(0, NONE, -1), -2);
            for (int far : FAR) {
                due("TURNING far off", desk.shifts(far, NONE, 0), -2);
                due("k far off", desk.shifts(0, far, 0), -2);
                due("what far off", desk.shifts(0, 0, far), -2);
            }
        });
    }

    private static void flip() {
        promise(18);
        edge("A FLIP that has SHIFTS: 0 a GLIDE, 1 a MIRROR.", () -> {
            due("a GLIDE", desk("abcd;aabc;adcb;acba;").flip(5), 0);
            due("a MIRROR", desk("aab;ccd;").flip(5), 1);
            due("the last of SQUARE", desk("d;").flip(7), 1);
            due("the last of HEX", desk("hex;d;").flip(11), 1);
        });
        edge("NONE: others.", () -> {
            OrnamentDesk desk = desk("aab;ccd;");
            due("without SHIFTS", desk.flip(6), NONE);
            due("a TURN", desk.flip(0), NONE);
            due("the last TURN of SQUARE", desk("d;").flip(3), NONE);
            due("the last TURN of HEX", desk("hex;d;").flip(5), NONE);
            due("8 of SQUARE", desk("d;").flip(8), NONE);
            due("12 of HEX", desk("hex;d;").flip(12), NONE);
            due("-1", desk.flip(-1), NONE);
            for (int far : FAR) {
                due("far off", desk.flip(far), NONE);
            }
        });
    }

    private static void centre() {
        promise(19);
        edge("CENTRES of m (1, 2, 3, 4, 6): how many (k NONE, what 0)", () -> {
            int[][] square = {{1, 32}, {2, 2}, {3, 0}, {4, 2}, {6, 0}};
            int[][] hex = {{1, 30}, {2, 3}, {3, 2}, {4, 0}, {6, 1}};
            for (int k = 0; k < 5; k++) {
                due("SQUARE " + square[k][0], desk("d;").centre(square[k][0], NONE, 0), square[k][1]);
                due("HEX " + hex[k][0], desk("hex;d;").centre(hex[k][0], NONE, 0), hex[k][1]);
            }
            due("8 by 8 without TURNS", desk(WILD).centre(1, NONE, 0), 48 * 48);
        });
        edge("of the k-th (y rising, then x), what 0: x, 1: y (sixths)", () -> {
            OrnamentDesk desk = desk("d;");
            due("the first of 2, x", desk.centre(2, 0, 0), 3);
            due("the first of 2, y", desk.centre(2, 0, 1), 0);
            due("the next of 2, x", desk.centre(2, 1, 0), 0);
            due("the next of 2, y", desk.centre(2, 1, 1), 3);
            desk = desk("hex;d;");
            due("the first of 3, x", desk.centre(3, 0, 0), 2);
            due("the first of 3, y", desk.centre(3, 0, 1), 2);
            due("the next of 3, x", desk.centre(3, 1, 0), 4);
            due("the next of 3, y", desk.centre(3, 1, 1), 4);
            due("the last of 8 by 8, x", desk(WILD).centre(1, 48 * 48 - 1, 0), 47);
            due("the last of 8 by 8, y", desk(WILD).centre(1, 48 * 48 - 1, 1), 47);
        });
        edge("-2: not so many, another m, what.", () -> {
            OrnamentDesk desk = desk("d;");
            due("k 2 of 2", desk.centre(4, 2, 0), -2);
            due("k 0 of none", desk.centre(3, 0, 0), -2);
            due("k -2", desk.centre(4, -2, 0), -2);
            due("k NONE, what 1", desk.centre(4, NONE, 1), -2);
            for (int m : new int[] {-1, 0, 5, 7, 8, 12}) {
                due("m " + m, desk.centre(m, NONE, 0), -2);
                due("m " + m + ", k 0", desk.centre(m, 0, 0), -2);
            }
            due("what 2", desk.centre(4, 0, 2), -2);
            due("what -1", desk.centre(4, 0, -1), -2);
            due("what 2, k NONE", desk.centre(4, NONE, 2), -2);
            for (int far : FAR) {
                due("m far off", desk.centre(far, NONE, 0), -2);
                due("k far off", desk.centre(1, far, 0), -2);
                due("what far off", desk.centre(1, 0, far), -2);
            }
        });
    }

    private static void kind() {
        promise(20);
        edge("The KIND of a CELL of the PLANE", () -> {
            OrnamentDesk desk = desk("ab;aa;");
            due("x -1", desk.kind(-1, 0), 1);
            due("y -1", desk.kind(0, -1), 2);
            due("(3, 5)", desk.kind(3, 5), 0);
            for (int far : FAR) {
                due("far off", desk.kind(far, 0), Math.floorMod(far, 2));
                due("far off", desk.kind(0, far), 2 * Math.floorMod(far, 2));
            }
        });
        edge("KINDS are numbered as they come first in the TILE, y rising, then x.", () -> {
            OrnamentDesk desk = desk(WILD);
            for (int k = 0; k < 64; k++) {
                due("KIND of CELL " + k, desk.kind(k % 8, k / 8), k);
            }
            // The COLOUR says nothing: d comes first.
            due("d", desk("da;").kind(0, 0), 0);
            due("a", desk("da;").kind(1, 0), 1);
            due("all of one", new OrnamentDesk().kind(3, 3), 0);
        });
    }

    private static void strip() {
        promise(21);
        edge("STRIP, what 0: its CLASS, 1 + w: how many SHIFTS the WAY w has.", () -> {
            OrnamentDesk desk = desk("abcd;cdab;");
            int[] dues = {4, 1, 0, 1, 0};
            for (int what = 0; what < 5; what++) {
                due("strip(" + what + ")", desk.strip(what), dues[what]);
            }
            due("8 SHIFTS", desk("aaaaaaaa;").strip(4), 8);
        });
        edge("NONE: another what.", () -> {
            due("-1", new OrnamentDesk().strip(-1), NONE);
            due("5", new OrnamentDesk().strip(5), NONE);
            for (int far : FAR) {
                due("far off", new OrnamentDesk().strip(far), NONE);
            }
        });
    }

    private static void coloured() {
        promise(22);
        edge("By how many SHIFTS of a TURNING the PLANE is COLOURED", () -> {
            due("checkers", desk("ab;ba;").coloured(0, false), 4);
            due("three COLOURS on HEX", desk("hex;abc;cab;bca;").coloured(11, false), 9);
            due("none, which is not NONE", desk("ab;").coloured(1, false), 0);
            due("itself alone", desk(WILD).coloured(0, false), 1);
        });
        edge("or (plain) of these by how many each CELL comes to one of its own COLOUR", () -> {
            due("checkers", desk("ab;ba;").coloured(0, true), 2);
            due("three COLOURS on HEX", desk("hex;abc;cab;bca;").coloured(1, true), 0);
            due("three COLOURS on HEX", desk("hex;abc;cab;bca;").coloured(2, true), 3);
            due("itself alone", desk(WILD).coloured(0, true), 1);
        });
        edge("NONE: another TURNING.", () -> {
            due("-1", new OrnamentDesk().coloured(-1, false), NONE);
            due("8 of SQUARE", new OrnamentDesk().coloured(8, true), NONE);
            due("12 of HEX", desk("hex;d;").coloured(12, false), NONE);
            due("8 of HEX", desk("hex;d;").coloured(8, false), 1);
            for (int far : FAR) {
                due("far off", new OrnamentDesk().coloured(far, true), NONE);
            }
        });
    }

    private static void like() {
        promise(23);
        edge("The first TURNING and SHIFT (the TURNING rising, then y, then x)", () -> {
            OrnamentDesk desk = desk("ab;ba;");
            desk.image(0);
            desk.shift(1, 0);
            due("(1, 0), not (0, 1)", desk.like(0), 1);
            desk = new OrnamentDesk();
            desk.image(0);
            due("all", desk.like(0), 0);
        });
        edge("by which each CELL of the PLANE kept as image k comes to one of its COLOUR of the PLANE now", () -> {
            OrnamentDesk desk = desk("hex;" + WILD);
            desk.image(1);
            desk.turn(1);
            due("from the image to now", desk.like(1), 64);
            desk.shift(2, 1);
            due("the TURNING ahead of the SHIFT", desk.like(1), 64 + 8 + 2);
            desk.image(1);
            due("the later image", desk.like(1), 0);
        });
        edge("64 times the TURNING, 8 times y, and x", () -> {
            OrnamentDesk desk = desk("hex;" + WILD);
            desk.image(2);
            desk.turn(11);
            desk.shift(7, 7);
            due("11, 7, 7", desk.like(2), 64 * 11 + 63);
        });
        edge("NONE: none; it has another NET, other COLUMNS, ROWS.", () -> {
            OrnamentDesk desk = desk(WILD);
            desk.image(0);
            desk.paint(0, 0, 1);
            due("painted", desk.like(0), NONE);
            desk = desk("ab;");
            desk.image(0);
            desk.paint(1, 0, 0);
            due("all alike now", desk.like(0), NONE);
            desk = new OrnamentDesk();
            desk.image(0);
            desk.net(true);
            due("another NET", desk.like(0), NONE);
            desk = desk("abab;");
            desk.image(0);
            desk.reduce();
            due("other COLUMNS", desk.like(0), NONE);
            desk = desk("a;b;a;b;");
            desk.image(0);
            desk.reduce();
            due("other ROWS", desk.like(0), NONE);
            // 2 by 1 and 1 by 2: turned they are alike, but not of as many COLUMNS.
            desk = desk("ab;");
            desk.image(0);
            say(desk, "a;b;");
            desk.read();
            due("COLUMNS and ROWS the other way", desk.like(0), NONE);
        });
        edge("-2: there is no such image.", () -> {
            OrnamentDesk desk = desk("ab;");
            desk.image(1);
            due("not kept", desk.like(0), -2);
            due("kept", desk.like(1), 0);
            due("not kept", desk.like(2), -2);
            due("3", desk.like(3), -2);
            due("-1", desk.like(-1), -2);
            for (int far : FAR) {
                due("far off", desk.like(far), -2);
            }
        });
    }

    private static void flaws() {
        promise(24);
        edge("NONE: another one;", () -> {
            due("-1", desk("d;").flaws(-1), NONE);
            due("0", desk("d;").flaws(0), 0);
            due("16", desk("hex;d;").flaws(16), 0);
            due("17", desk("hex;d;").flaws(17), NONE);
            for (int far : FAR) {
                due("far off", desk("d;").flaws(far), NONE);
            }
        });
        edge("COLUMNS are not as many as ROWS, the NET is not as it wants it, halves of an odd number.", () -> {
            due("2 by 1", desk("ab;").flaws(0), NONE);
            due("1 by 2", desk("hex;a;b;").flaws(12), NONE);
            for (int cls = 0; cls < 17; cls++) {
                boolean hex = cls >= 12;
                boolean halves = cls == 3 || cls == 6 || cls == 7 || cls == 11;
                due("2 on SQUARE, class " + cls, desk("aa;aa;").flaws(cls), hex ? NONE : 0);
                due("2 on HEX, class " + cls, desk("hex;aa;aa;").flaws(cls), hex ? 0 : NONE);
                due("1 on SQUARE, class " + cls, desk("a;").flaws(cls), hex || halves ? NONE : 0);
            }
        });
    }

    private static void orbit() {
        promise(25);
        edge("how many CELLS, or (first) the first one as 8 y + x", () -> {
            OrnamentDesk desk = new OrnamentDesk();
            due("one", desk.orbit(0, 3, 3, false), 1);
            due("(3, 3)", desk.orbit(0, 3, 3, true), 27);
            due("four", desk.orbit(9, 0, 3, false), 4);
            due("(1, 0)", desk.orbit(9, 0, 3, true), 1);
            due("(7, 7) of 8", desk("hex;" + WILD).orbit(13, 7, 7, true), 16 + 7);
            due("(7, 7) of 8", desk(WILD).orbit(0, 7, 7, true), 63);
        });
        edge("NONE: as flaws(), no such CELL.", () -> {
            OrnamentDesk desk = desk("abc;dda;bca;");
            for (int cls : new int[] {-1, 3, 6, 7, 11, 12, 16, 17}) {
                due("class " + cls, desk.orbit(cls, 0, 0, false), NONE);
            }
            due("2 by 1", desk("ab;").orbit(0, 0, 0, false), NONE);
            due("x 3", desk.orbit(0, 3, 0, true), NONE);
            due("x -1", desk.orbit(0, -1, 0, true), NONE);
            due("y 3", desk.orbit(0, 0, 3, false), NONE);
            due("y -1", desk.orbit(0, 0, -1, false), NONE);
            for (int far : FAR) {
                due("class far off", desk.orbit(far, 0, 0, true), NONE);
                due("x far off", desk.orbit(0, far, 0, true), NONE);
                due("y far off", desk.orbit(0, 0, far, true), NONE);
            }
        });
    }

    private static void nearest() {
        promise(26);
        edge("Of the classes of which flaws() can be asked", () -> {
            due("HEX", desk("hex;d;").nearest(0), 16);
            due("halves of 1", desk("d;").nearest(0), 10);
            due("2 by 1", desk("ab;").nearest(64), NONE);
            due("SQUARE, all of 8 by 8", desk(WILD).nearest(64), 11);
        });
        edge("that with fewest ORBITS of which FLAWS are no more than most", () -> {
            OrnamentDesk desk = desk("ab;ab;");
            due("0", desk.nearest(0), 3);
            due("1", desk.nearest(1), 3);
            due("2", desk.nearest(2), 11);
            due("any", desk.nearest(Integer.MAX_VALUE), 11);
            due("p1 alone", desk("abc;aad;aaa;").nearest(0), 0);
            due("64 ORBITS", desk(WILD).nearest(0), 0);
        });
        edge("of several the greatest class", () -> {
            due("pg, pmg, pgg, p4g of 2", desk("aa;aa;").nearest(0), 11);
            due("p3 to p6m of 2", desk("hex;aa;aa;").nearest(0), 16);
        });
        edge("NONE: none.", () -> {
            due("-1", desk("aa;aa;").nearest(-1), NONE);
            due("far below", desk("aa;aa;").nearest(Integer.MIN_VALUE), NONE);
            due("HEX with a FLAW each", desk("hex;ab;aa;").nearest(0), NONE);
            due("2 by 1", desk("aa;").nearest(0), NONE);
        });
    }

    private static void painted() {
        promise(27);
        edge("CLASS, were a CELL of another COLOUR (also of its own).", () -> {
            OrnamentDesk desk = desk("ab;");
            due("its own", desk.painted(0, 0, 0), 5);
            due("all alike", desk.painted(0, 0, 1), 10);
            due("the last CELL", desk.painted(1, 0, 0), 10);
            due("3", desk.painted(1, 0, 3), 5);
            shows("as it was", desk, "ab;");
            due("CLASS now", desk.count(6), 5);
            due("6 by 6", desk("hex;" + ALIKE_6).painted(5, 5, 3), 16);
            desk = desk("ab;ba;");
            due("a dot", desk.painted(0, 0, 1), 10);
            due("checkers", desk.painted(0, 0, 0), 10);
            due("three COLOURS", desk.painted(0, 0, 2), 10);
            desk = desk("aabb;aabb;");
            due("its own, PARTED", desk.painted(0, 0, 0), 5);
        });
        edge("NONE: there is no such CELL, COLOUR.", () -> {
            OrnamentDesk desk = desk("ab;");
            due("x 2", desk.painted(2, 0, 1), NONE);
            due("x -1", desk.painted(-1, 0, 1), NONE);
            due("y 1", desk.painted(0, 1, 1), NONE);
            due("y -1", desk.painted(0, -1, 1), NONE);
            due("COLOUR 4", desk.painted(0, 0, 4), NONE);
            due("COLOUR -1", desk.painted(0, 0, -1), NONE);
            for (int far : FAR) {
                due("x far off", desk.painted(far, 0, 1), NONE);
                due("y far off", desk.painted(0, far, 1), NONE);
                due("COLOUR far off", desk.painted(0, 0, far), NONE);
            }
        });
    }

    private static void better() {
        promise(28);
        edge("The CELL of the TILE (the least y, then the least x)", () -> {
            due("the least x", desk("ab;").better(), 1);
            due("the least y", desk("a;b;").better(), 1);
            // c at (1, 0) and b at (0, 1) make checkers of it, either of them.
            due("y ahead of x", desk("ab;ca;").better(), 4 + 2);
        });
        edge("its other COLOUR (the least)", () -> {
            // b b c and c b c have two KINDS, d b c three.
            due("b or c", desk("abc;").better(), 1);
        });
        edge("KINDS would be fewest, and fewer than now", () -> {
            due("one KIND already", desk("d;").better(), NONE);
            due("one KIND already", new OrnamentDesk().better(), NONE);
            // Two KINDS; any CELL painted leaves three or four.
            due("two KINDS", desk("aabb;").better(), NONE);
            // Fewer at (0, 0), but fewest with the dot away.
            due("the dot away", desk("ab;aa;").better(), 4);
        });
        edge("it alone being of that", () -> {
            // With all that are of its KIND it would be all alike; alone it makes three KINDS of two.
            due("a b a b", desk("abab;").better(), NONE);
        });
        edge("32 y + 4 x + the COLOUR", () -> {
            due("(5, 5), 0", desk("aaaaaa;aaaaaa;aaaaaa;aaaaaa;aaaaaa;aaaaad;").better(), 32 * 5 + 4 * 5);
            due("(7, 0), 3", desk("dddddddc;").better(), 4 * 7 + 3);
            due("(0, 7), 3", desk("d;d;d;d;d;d;d;c;").better(), 32 * 7 + 3);
        });
        edge("NONE: none; the TILE has more than 36 CELLS.", () -> {
            due("36", desk("baaaaa;aaaaaa;aaaaaa;aaaaaa;aaaaaa;aaaaaa;").better(), 0);
            due("35", desk("baaaaaa;aaaaaaa;aaaaaaa;aaaaaaa;aaaaaaa;").better(), 0);
            due("40", desk("baaaaaaa;aaaaaaaa;aaaaaaaa;aaaaaaaa;aaaaaaaa;").better(), NONE);
            due("42", desk("baaaaa;aaaaaa;aaaaaa;aaaaaa;aaaaaa;aaaaaa;aaaaaa;").better(), NONE);
            due("64", desk("hex;" + WILD).better(), NONE);
        });
    }

    private static void image() {
        promise(29);
        edge("All that there is (THE TEXT, the FAULT, too, but for what can be UNDONE) is kept as k", () -> {
            OrnamentDesk desk = inState(1);
            String now = show(desk);
            desk.image(1);
            due("ACTS stay", desk.count(12), 8);
            desk.read();
            yes("again()", desk.again(1));
            shows("the TILE, the NET", desk, now);
            due("bytes of THE TEXT", desk.count(13), 7);
            due("the FAULT", desk.fault(false), 2);
            due("its place", desk.fault(true), 4);
            due("what can be UNDONE", desk.count(12), 0);
            due("read() of THE TEXT", desk.read(), 2);
            shows("read() of THE TEXT", desk, "hex;ab;");
            say(desk, "square;cd;cd;");
            yes("again()", desk.again(1));
            due("read() of the TEXT that was kept", desk.read(), 2);
            shows("read() of the TEXT that was kept", desk, "hex;ab;");
        });
        edge("0 to 2: true;", () -> {
            OrnamentDesk desk = new OrnamentDesk();
            String[] was = new String[3];
            for (int k = 0; k < 3; k++) {
                desk.paint(k, 0, k + 1);
                was[k] = show(desk);
                yes("image(" + k + ")", desk.image(k));
            }
            for (int k = 2; k >= 0; k--) {
                yes("again(" + k + ")", desk.again(k));
                shows("again(" + k + ")", desk, was[k]);
            }
            desk.paint(3, 3, 3);
            yes("over an earlier one", desk.image(0));
            desk.again(1);
            desk.again(0);
            due("the later one", desk.cell(3, 3), 3);
        });
        edge("false for another k.", () -> {
            OrnamentDesk desk = new OrnamentDesk();
            no("3", desk.image(3));
            no("-1", desk.image(-1));
            for (int far : FAR) {
                no("far off", desk.image(far));
            }
            for (int k = 0; k < 3; k++) {
                due("nothing kept", desk.like(k), -2);
            }
        });
    }

    private static void again() {
        promise(30);
        edge("All is as it was kept as k: true;", () -> {
            OrnamentDesk desk = desk("hex;ab;cd;");
            desk.image(2);
            desk.make(0, 8, 4, 1);
            desk.read();
            yes("again(2)", desk.again(2));
            shows("the TILE", desk, "hex;ab;cd;");
            due("no FAULT", desk.fault(false), 0);
            due("no place", desk.fault(true), NONE);
            due("no bytes", desk.count(13), 0);
            desk.paint(0, 0, 3);
            yes("again(2) once more", desk.again(2));
            shows("the image stays as it was kept", desk, "hex;ab;cd;");
            due("none can be UNDONE", desk.undo(), NONE);
        });
        edge("false if there is none such.", () -> {
            OrnamentDesk desk = desk("ab;");
            desk.paint(0, 0, 2);
            no("not kept", desk.again(0) || desk.again(1) || desk.again(2));
            no("3", desk.again(3));
            no("-1", desk.again(-1));
            for (int far : FAR) {
                no("far off", desk.again(far));
            }
            due("ACTS stay", desk.count(12), 1);
            shows("as it was", desk, "cb;");
        });
    }
}
