import java.util.NoSuchElementException;

/** Promise by promise: ordinary inputs, the edges that the document names, wrong inputs; answers found by hand. */
public final class PromisesTest extends Checks {
    public static void main(String[] args) {
        newObject();
        tell();
        read();
        readRefused();
        fault();
        paint();
        shift();
        turn();
        dye();
        net();
        make();
        makeIsOfItsClass();
        mend();
        reduce();
        undo();
        count();
        classes();
        cell();
        step();
        shifts();
        flip();
        centre();
        kind();
        strip();
        coloured();
        like();
        flaws();
        orbit();
        nearest();
        painted();
        better();
        image();
        again();
        end();
    }

    private static void newObject() {
        promise(1);
        OrnamentDesk desk = new OrnamentDesk();
        shows("a new object", desk, "aaaa;aaaa;aaaa;aaaa;");
        due("count(12)", desk.count(12), 0);
        due("count(13)", desk.count(13), 0);
        due("fault(false)", desk.fault(false), 0);
        due("fault(true)", desk.fault(true), NONE);
        due("like(0)", desk.like(0), -2);
        due("NONE", OrnamentDesk.NONE, NONE);
    }

    private static void tell() {
        promise(2);
        OrnamentDesk desk = new OrnamentDesk();
        due("tell of nothing", desk.tell(0L), 0);
        due("tell of two", desk.tell(eight("ab")), 2);
        due("tell up to the first 0", desk.tell(0x6100626262626262L), 3);
        due("tell behind a 0 at the top", desk.tell(0x0062626262626262L), 3);
        due("tell of bytes above 127", desk.tell(-1L), 11);
        desk = new OrnamentDesk();
        for (int k = 1; k <= 24; k++) {
            due("tell of eight", desk.tell(eight("aaaaaaaa")), 8 * k);
        }
        due("tell to 196", desk.tell(eight("aaaa")), 196);
        due("tell beyond 200", desk.tell(eight("aaaaa")), NONE);
        due("nothing came", desk.count(13), 196);
        due("tell to 200", desk.tell(eight("aaaa")), 200);
        due("tell of one more", desk.tell(eight("a")), NONE);
        due("tell of nothing more", desk.tell(0L), 200);
        shows("tell", desk, "aaaa;aaaa;aaaa;aaaa;");
    }

    private static void read() {
        promise(3);
        OrnamentDesk desk = new OrnamentDesk();
        desk.paint(0, 0, 1);
        desk.net(true);
        say(desk, " abc\n;  dda;");
        due("read()", desk.read(), 6);
        shows("read()", desk, "abc;dda;");
        due("THE TEXT", desk.count(13), 0);
        due("ACTS", desk.count(12), 0);
        due("undo()", desk.undo(), NONE);
        shows("hex", desk("hex;a;"), "hex;a;");
        shows("hex, then none", desk("a;"), "a;");
        shows("the later", desk("hex;a;square;"), "a;");
        shows("the later", desk("square;a;b;hex ; square;hex;"), "hex;a;b;");
        desk = desk("abcdabcd;abcdabcd;abcdabcd;abcdabcd;abcdabcd;abcdabcd;abcdabcd;dddddddd;");
        due("8 ROWS", desk.count(1), 8);
        due("8 COLUMNS", desk.count(0), 8);
        due("the last CELL", desk.cell(7, 7), 3);
    }

    private static void readRefused() {
        promise(3);
        OrnamentDesk desk = desk("hex;ab;cd;");
        desk.paint(0, 0, 3);
        say(desk, "aaa;bb;");
        due("read()", desk.read(), NONE);
        shows("read() with a FAULT", desk, "hex;db;cd;");
        due("THE TEXT", desk.count(13), 0);
        due("ACTS stay", desk.count(12), 1);
        due("FAULT", desk.fault(false), 2);
        due("undo()", desk.undo(), 0);
        shows("undo()", desk, "hex;ab;cd;");
    }

    private static void faultOf(String text, int number, int place) {
        OrnamentDesk desk = new OrnamentDesk();
        say(desk, text);
        int read = desk.read();
        due("read() of <" + text + ">", read == NONE ? 1 : 0, number == 0 ? 0 : 1);
        due("FAULT of <" + text + ">", desk.fault(false), number);
        due("its place in <" + text + ">", desk.fault(true), place);
        if (number != 0) {
            shows("<" + text + ">", desk, "aaaa;aaaa;aaaa;aaaa;");
        }
    }

    private static void fault() {
        promise(4);
        faultOf("", 1, 0);
        faultOf(" \n ", 1, 3);
        faultOf("hex;", 1, 4);
        faultOf("square; ", 1, 8);
        faultOf("hex", 1, 3);
        faultOf("ab", 1, 2);
        faultOf("ab ", 1, 3);
        faultOf(";", 1, 0);
        faultOf("ab;;", 1, 3);
        faultOf("ab cd;", 1, 3);
        faultOf("hex square;a;", 1, 4);
        faultOf("abe;", 1, 0);
        faultOf("abz;", 1, 0);
        faultOf("z;", 1, 0);
        faultOf("a;hexa;", 1, 2);
        faultOf("a;he;", 1, 2);
        faultOf("a;squares;", 1, 2);
        faultOf("abcdabcd;", 0, NONE);
        faultOf("abcdabcda;", 1, 0);
        faultOf("a;?", 1, 2);
        faultOf("a?;", 1, 1);
        faultOf("abe?;", 1, 0);
        faultOf("A;", 1, 0);
        faultOf("a;\t", 1, 2);
        faultOf("a;\r\n", 1, 2);
        faultOf("a;\u00e9", 1, 2);
        faultOf("a0;", 1, 1);
        faultOf("`;", 1, 0);
        faultOf("{;", 1, 0);
        faultOf("ab;abc;", 2, 3);
        faultOf("ab;a;abc;", 2, 3);
        faultOf("ab;hex; abc;ab;", 2, 8);
        faultOf("ab;abc;x;", 1, 7);
        faultOf("ab;abc", 1, 6);
        faultOf("a;b;c;d;a;b;c;d;", 0, NONE);
        faultOf("a;b;c;d;a;b;c;d;hex;", 0, NONE);
        faultOf("a;b;c;d;a;b;c;d;hex;a;", 3, 20);
        faultOf("a;b;c;d;a;b;c;d;ab;", 3, 16);
        faultOf("a;b;c;d;a;b;c;d;a;b;c;", 3, 16);
        faultOf("a;bb;c;d;a;b;c;d;a;", 2, 2);
        faultOf("a;b;c;d;a;b;c;d;a;?", 1, 18);
        OrnamentDesk desk = new OrnamentDesk();
        say(desk, "?");
        desk.read();
        desk.paint(0, 0, 1);
        due("the FAULT stays", desk.fault(false), 1);
        say(desk, "a;");
        due("until it is read anew", desk.fault(true), 0);
        desk.read();
        due("FAULT", desk.fault(false), 0);
        due("place", desk.fault(true), NONE);
    }

    private static void paint() {
        promise(5);
        OrnamentDesk desk = desk("aaa;aaa;");
        yes("paint", desk.paint(2, 1, 3));
        yes("paint", desk.paint(0, 0, 1));
        yes("paint", desk.paint(1, 0, 2));
        shows("paint", desk, "bca;aad;");
        yes("paint back", desk.paint(2, 1, 0));
        shows("paint", desk, "bca;aaa;");
        due("ACTS", desk.count(12), 4);
        no("paint with its own", desk.paint(0, 0, 1));
        no("no such COLUMN", desk.paint(3, 0, 1));
        no("no such ROW", desk.paint(0, 2, 1));
        no("no such CELL", desk.paint(-1, 0, 1));
        no("no such CELL", desk.paint(0, -1, 1));
        no("no such COLOUR", desk.paint(0, 0, 4));
        no("no such COLOUR", desk.paint(0, 0, -1));
        for (int far : FAR) {
            no("paint far off", desk.paint(far, 0, 1) || desk.paint(0, far, 1) || desk.paint(0, 0, far));
        }
        due("ACTS", desk.count(12), 4);
    }

    private static void shift() {
        promise(6);
        OrnamentDesk desk = desk("abc;ddd;");
        yes("shift", desk.shift(1, 0));
        shows("shift(1, 0)", desk, "cab;ddd;");
        yes("shift", desk.shift(0, 1));
        shows("shift(0, 1)", desk, "ddd;cab;");
        yes("shift", desk.shift(-1, -1));
        shows("shift(-1, -1)", desk, "abc;ddd;");
        yes("shift", desk.shift(100, -100));
        shows("shift(100, -100)", desk, "cab;ddd;");
        yes("shift", desk.shift(-100, 100));
        shows("shift(-100, 100)", desk, "abc;ddd;");
        due("ACTS", desk.count(12), 5);
        no("101", desk.shift(101, 0));
        no("-101", desk.shift(-101, 0));
        no("101", desk.shift(1, 101));
        no("-101", desk.shift(1, -101));
        for (int far : FAR) {
            no("shift far off", desk.shift(far, 1) || desk.shift(1, far));
        }
        no("by nothing", desk.shift(0, 0));
        no("by WIDE and HIGH", desk.shift(-3, 4));
        no("by a STEP", desk("ab;ba;").shift(1, 1));
        due("ACTS", desk.count(12), 5);
        shows("refused", desk, "abc;ddd;");
        desk = desk("abcdabca;bbbbbbbb;abcdabcd;abcdabcd;abcdabcd;abcdabcd;abcdabcd;dddddddc;");
        yes("8 by 8", desk.shift(7, 7));
        shows("8 by 8", desk,
            "bbbbbbbb;bcdabcda;bcdabcda;bcdabcda;bcdabcda;bcdabcda;ddddddcd;bcdabcaa;");
    }

    private static void turn() {
        promise(7);
        String[] square = {"abc;ddd;aca;", "ada;bdc;cda;"};
        OrnamentDesk desk = desk(square[0]);
        // (x, y) comes to (-y, x): new (0, 1) was (1, 0), new (2, 0) was (0, 1).
        yes("turn(1)", desk.turn(1));
        due("what was at (1, 0)", desk.cell(0, 1), 1);
        due("what was at (2, 0)", desk.cell(0, 2), 2);
        due("what was at (0, 1)", desk.cell(-1, 0), 3);
        due("what was at (1, 2)", desk.cell(-2, 1), 2);
        yes("turn(3)", desk.turn(3));
        shows("turned back", desk, square[0]);
        yes("turn(6)", desk.turn(6));
        shows("turn(6)", desk, square[1]);
        due("ACTS", desk.count(12), 3);
        no("turn(0)", desk.turn(0));
        no("turn(8) of SQUARE", desk.turn(8));
        no("turn(-1)", desk.turn(-1));
        for (int far : FAR) {
            no("turn far off", desk.turn(far));
        }
        no("not as many COLUMNS as ROWS", desk("ab;").turn(2));
        no("not as many COLUMNS as ROWS", desk("aba;cda;").turn(1));
        no("it stays as it is", desk("ab;ba;").turn(1));
        due("ACTS", desk.count(12), 3);
        everyTurning();
    }

    private static void everyTurning() {
        int[][] square = {{1, 0, 0, 1}, {0, 1, -1, 0}, {-1, 0, 0, -1}, {0, -1, 1, 0}, {1, 0, 0, -1}, {-1, 0, 0, 1},
            {0, 1, 1, 0}, {0, -1, -1, 0}};
        int[][] hex = {{1, 0, 0, 1}, {0, 1, -1, 1}, {-1, 1, -1, 0}, {-1, 0, 0, -1}, {0, -1, 1, -1}, {1, -1, 1, 0},
            {0, 1, 1, 0}, {0, -1, -1, 0}, {1, 0, 1, -1}, {-1, 0, -1, 1}, {1, -1, 0, -1}, {-1, 1, 0, 1}};
        for (int t = 1; t < 12; t++) {
            for (int net = 0; net < 2; net++) {
                int[][] table = net == 0 ? square : hex;
                if (t < table.length) {
                    // Where (1, 0) and (0, 1) come by the TURNING, told by a b and a c on a tile of a's.
                    OrnamentDesk desk = desk(net == 0 ? "abaaa;caaaa;aaaaa;aaaaa;aaaaa;" : "hex;abaaa;caaaa;aaaaa;aaaaa;aaaaa;");
                    yes("turn(" + t + ")", desk.turn(t));
                    due("(1, 0) by " + t + " of net " + net, desk.cell(table[t][0], table[t][1]), 1);
                    due("(0, 1) by " + t + " of net " + net, desk.cell(table[t][2], table[t][3]), 2);
                    due("the others", desk.count(20), 23);
                }
            }
        }
        no("turn(12) of HEX", desk("hex;ab;cd;").turn(12));
    }

    private static void dye() {
        promise(8);
        OrnamentDesk desk = desk("abc;bba;");
        yes("dye", desk.dye(0, 1));
        shows("dye(0, 1)", desk, "bac;aab;");
        yes("dye", desk.dye(3, 2));
        shows("dye(3, 2)", desk, "bad;aab;");
        yes("dye with one that no CELL has", desk.dye(0, 2));
        shows("dye(0, 2)", desk, "bcd;ccb;");
        no("one COLOUR", desk.dye(1, 1));
        no("others", desk.dye(-1, 1) || desk.dye(1, -1) || desk.dye(4, 1) || desk.dye(1, 4));
        for (int far : FAR) {
            no("dye far off", desk.dye(far, 1) || desk.dye(1, far));
        }
        no("two that no CELL has", desk("ab;").dye(2, 3));
        due("ACTS", desk.count(12), 3);
    }

    private static void net() {
        promise(9);
        OrnamentDesk desk = desk("ab;cd;");
        no("SQUARE already", desk.net(false));
        yes("HEX", desk.net(true));
        shows("net(true)", desk, "hex;ab;cd;");
        no("HEX already", desk.net(true));
        yes("SQUARE", desk.net(false));
        shows("net(false)", desk, "ab;cd;");
        due("ACTS", desk.count(12), 2);
    }

    private static void make() {
        promise(10);
        OrnamentDesk desk = new OrnamentDesk();
        due("make p1", desk.make(0, 3, 4, 77), 9);
        long x = 77;
        for (int k = 0; k < 9; k++) {
            x = (x * 1103515245L + 12345L) & 0xffffffffL;
            due("DRAWN " + k, desk.cell(k % 3, k / 3), (x >> 16) % 4);
        }
        due("make p1 by a SEED below 0", desk.make(0, 2, 3, -5), 4);
        x = -5 & 0xffffffffL;
        for (int k = 0; k < 4; k++) {
            x = (x * 1103515245L + 12345L) & 0xffffffffL;
            due("DRAWN " + k, desk.cell(k % 2, k / 2), (x >> 16) % 3);
        }
        due("ACTS", desk.count(12), 2);
        due("make with one COLOUR", desk.make(15, 1, 1, 9), 1);
        shows("make(15, 1, 1, 9)", desk, "hex;a;");
        due("make that leaves all as it is", desk.make(15, 1, 1, 8), 1);
        due("ACTS", desk.count(12), 4);
        int[][] bad = {{-1, 4, 2, 1}, {17, 4, 2, 1}, {0, 0, 2, 1}, {0, 9, 2, 1}, {0, -1, 2, 1}, {0, 4, 0, 1}, {0, 4, 5, 1},
            {0, 4, -1, 1}, {3, 5, 2, 1}, {6, 7, 2, 1}, {7, 1, 2, 1}, {11, 3, 2, 1}};
        for (int[] b : bad) {
            due("make of " + b[0] + " " + b[1] + " " + b[2], desk.make(b[0], b[1], b[2], b[3]), NONE);
        }
        for (int far : FAR) {
            due("make far off", desk.make(far, 2, 2, 2), NONE);
            due("make far off", desk.make(1, far, 2, 2), NONE);
            due("make far off", desk.make(1, 2, far, 2), NONE);
        }
        shows("refused", desk, "hex;a;");
        due("ACTS", desk.count(12), 4);
        // 2 by 2: each class's TURNINGS done by hand on four CELLS.
        int[] made2 = {4, 4, 4, 2, 3, 4, 2, 2, 3, 3, 3, 2, 2, 2, 2, 2, 2};
        for (int cls = 0; cls < 17; cls++) {
            due("ORBITS of class " + cls, desk.make(cls, 2, 4, 1), made2[cls]);
            due("NET of class " + cls, desk.count(2), cls >= 12 ? 1 : 0);
        }
    }

    /** The TURNINGS that make a class and the words that tell one are apart in the document: they must agree. */
    private static void makeIsOfItsClass() {
        promise(10);
        for (int cls = 0; cls < 17; cls++) {
            int alike = 0;
            for (int seed = 1; seed <= 20; seed++) {
                OrnamentDesk desk = new OrnamentDesk();
                desk.make(cls, 8, 4, seed * 7919);
                due("FLAWS of what is MADE", desk.flaws(cls), 0);
                alike += desk.count(6) == cls ? 1 : 0;
            }
            due("of 20 of class " + cls + " most are of it", alike >= 15 ? 1 : 0, 1);
        }
    }

    private static void mend() {
        promise(11);
        OrnamentDesk desk = desk("ab;aa;");
        due("mend of p4", desk.mend(9), 1);
        shows("of several the least", desk, "aa;aa;");
        due("ACTS", desk.count(12), 1);
        due("mend of nothing", desk.mend(9), 0);
        due("nothing to be UNDONE", desk.count(12), 1);
        due("undo", desk.undo(), 0);
        shows("undo of mend", desk, "ab;aa;");
        // pm, 3 by 3: (1, y) and (2, y) are of one ORBIT.
        desk = desk("abc;ddb;cca;");
        due("mend of pm", desk.mend(2), 3);
        shows("mend of pm", desk, "abb;dbb;caa;");
        // p4 on 3 by 3: (1, 0), (0, 1), (2, 0), (0, 2) and the four others about (0, 0).
        desk = desk("adc;dda;dad;");
        due("FLAWS of p4", desk.flaws(9), 3);
        due("mend of p4", desk.mend(9), 3);
        shows("mend of p4", desk, "add;daa;daa;");
        due("wrong NET", desk.mend(12), NONE);
        due("no such class", desk.mend(17), NONE);
        due("no such class", desk.mend(-1), NONE);
        due("halves of an odd number", desk.mend(3), NONE);
        due("not as many COLUMNS as ROWS", desk("ab;").mend(0), NONE);
        for (int far : FAR) {
            due("mend far off", desk.mend(far), NONE);
        }
        due("ACTS", desk.count(12), 1);
    }

    private static void reduce() {
        promise(12);
        OrnamentDesk desk = desk("hex;abab;abab;");
        due("reduce", desk.reduce(), 2);
        shows("reduce", desk, "hex;ab;");
        due("reduce again", desk.reduce(), NONE);
        due("ACTS", desk.count(12), 1);
        due("undo", desk.undo(), 0);
        shows("undo of reduce", desk, "hex;abab;abab;");
        due("a skew STEP is none along a ROW", desk("ab;ba;").reduce(), NONE);
        desk = new OrnamentDesk();
        due("reduce at first", desk.reduce(), 1);
        shows("reduce at first", desk, "a;");
        desk = desk("abca;abca;bbbb;abca;abca;bbbb;");
        due("ROWS alone", desk.reduce(), 12);
        shows("ROWS alone", desk, "abca;abca;bbbb;");
        desk = desk("abcabc;cabcab;");
        due("COLUMNS alone", desk.reduce(), 6);
        shows("COLUMNS alone", desk, "abc;cab;");
        due("nothing to reduce", desk("abc;bbb;").reduce(), NONE);
    }

    private static void undo() {
        promise(13);
        OrnamentDesk desk = new OrnamentDesk();
        due("undo at first", desk.undo(), NONE);
        for (int k = 0; k < 10; k++) {
            desk.paint(k % 4, k / 4, 1);
        }
        due("the latest 8", desk.count(12), 8);
        for (int k = 7; k >= 0; k--) {
            due("undo", desk.undo(), k);
        }
        due("undo", desk.undo(), NONE);
        shows("all UNDONE", desk, "bbaa;aaaa;aaaa;aaaa;");
        String[] was = new String[8];
        desk = desk("hex;abcb;dacd;aacb;bbdb;");
        Runnable[] acts = new Runnable[8];
        OrnamentDesk d = desk;
        acts[0] = () -> yes("paint", d.paint(0, 0, 3));
        acts[1] = () -> yes("shift", d.shift(1, 2));
        acts[2] = () -> yes("turn", d.turn(5));
        acts[3] = () -> yes("dye", d.dye(1, 2));
        acts[4] = () -> yes("mend", d.mend(16) > 0);
        acts[5] = () -> yes("net", d.net(false));
        acts[6] = () -> yes("make", d.make(15, 8, 1, 3) > 0);
        acts[7] = () -> due("reduce", d.reduce(), 1);
        for (int k = 0; k < 8; k++) {
            was[k] = show(d);
            acts[k].run();
            due("ACTS", d.count(12), k + 1);
        }
        say(d, "ab");
        for (int k = 7; k >= 0; k--) {
            due("undo", d.undo(), k);
            shows("undo", d, was[k]);
        }
        due("THE TEXT stays", d.count(13), 2);
        yes("an ACT anew", d.paint(0, 0, 2));
        due("undo", d.undo(), 0);
        shows("undo", d, was[0]);
    }

    private static void count() {
        promise(14);
        OrnamentDesk desk = desk("ab;ba;");
        // FLIPS 6 and 7 part the STEPS (1, 1) and (1, -1), FLIPS 4 and 5 do not.
        int[] dues = {2, 2, 0, 2, 2, 4, 10, 4, 0, 2, 2, 2, 0, 0, 255};
        for (int what = 0; what < dues.length; what++) {
            due("count(" + what + ") of checkers", desk.count(what), dues[what]);
        }
        desk = desk("hex;abcb;");
        int[] hex = {4, 1, 1, 1, 4};
        for (int what = 0; what < hex.length; what++) {
            due("count(" + what + ")", desk.count(what), hex[what]);
        }
        due("COLOURS", desk.count(11), 3);
        due("a", desk.count(20), 1);
        due("b", desk.count(21), 2);
        due("c", desk.count(22), 1);
        due("d", desk.count(23), 0);
        say(desk, "hex;");
        due("bytes", desk.count(13), 4);
        for (int what : new int[] {-1, -2, 15, 16, 17, 18, 19, 24, 25, 34}) {
            due("count(" + what + ")", desk.count(what), NONE);
        }
        for (int far : FAR) {
            due("count far off", desk.count(far), NONE);
        }
        desk = new OrnamentDesk();
        due("SPAN at first", desk.count(3), 16);
        due("MOTIF at first", desk.count(4), 1);
        due("KINDS at first", desk.count(10), 1);
        due("bits of HEX", desk("hex;a;").count(14), 4095);
        due("bits of HEX 2 by 1, ab", desk("hex;ab;").count(14), 1 + 8 + 1024 + 2048);
    }

    private static void classOf(String text, int cls, int order, int mirrors, int glides, int crossed) {
        OrnamentDesk desk = desk(text);
        due("CLASS of " + text, desk.count(6), cls);
        due("ORDER of " + text, desk.count(5), order);
        due("MIRRORS of " + text, desk.count(7), mirrors);
        due("GLIDES of " + text, desk.count(8), glides);
        due("CROSSED of " + text, desk.count(9), crossed);
    }

    private static void classes() {
        promise(14);
        classOf("abc;aad;aaa;", 0, 1, 0, 0, 0);
        // 7 and (2, 2) leaves x - y as it is.
        classOf("abc;dab;cda;", 4, 1, 1, 0, 1);
        // Of two ROWS each is its own mirror.
        classOf("abcb;aacb;", 2, 1, 1, 0, 0);
        classOf("abab;abcd;adcb;", 1, 2, 0, 0, 0);
        classOf("abcb;dada;aaaa;", 2, 1, 1, 0, 0);
        classOf("abcd;aabc;adcb;acba;", 3, 1, 0, 1, 0);
        classOf("abc;bda;cab;", 4, 1, 1, 0, 1);
        classOf("ab;", 5, 2, 2, 0, 0);
        classOf("aab;aab;aac;", 5, 2, 2, 0, 0);
        classOf("abcd;", 2, 1, 1, 0, 0);
        classOf("aabb;abba;", 6, 2, 1, 1, 0);
        classOf("baaa;aaba;", 8, 2, 2, 0, 2);
        classOf("a;", 10, 4, 4, 0, 2);
        classOf("ab;aa;", 10, 4, 4, 0, 2);
        // Basketwork: FIRST is (4, 4), and FLIP 6, which leaves it, is a GLIDE.
        classOf("aaaaaaaa;abbbabab;aaaaabab;abbbabab;aaaaaaaa;abababbb;ababaaaa;abababbb;", 11, 4, 2, 2, 2);
        classOf("hex;a;", 16, 6, 6, 0, 6);
        // x + y, and x - y: the latter comes again by (1, 1), (2, -1), and a third of a turn leaves it.
        classOf("hex;abc;bca;cab;", 4, 1, 1, 0, 1);
        classOf("hex;abc;cab;bca;", 13, 3, 3, 0, 3);
    }

    private static void cell() {
        promise(15);
        OrnamentDesk desk = desk("abc;dab;");
        due("cell", desk.cell(0, 0), 0);
        due("cell", desk.cell(2, 0), 2);
        due("cell", desk.cell(0, 1), 3);
        due("cell", desk.cell(3, 0), 0);
        due("cell", desk.cell(-1, 0), 2);
        due("cell", desk.cell(-1, -1), 1);
        due("cell", desk.cell(-3, 3), 3);
        for (int far : FAR) {
            due("cell far off", desk.cell(far, 0), Math.floorMod(far, 3));
            due("cell far off", desk.cell(0, far), Math.floorMod(far, 2) == 0 ? 0 : 3);
        }
    }

    private static void stepsOf(String text, int... dues) {
        OrnamentDesk desk = desk(text);
        for (int k = 0; k < 6; k++) {
            due("step(" + (k >= 3) + ", " + k % 3 + ") of " + text, desk.step(k >= 3, k % 3), dues[k]);
        }
    }

    private static void step() {
        promise(16);
        stepsOf("a;", 1, 0, 1, 0, 1, 1);
        stepsOf("hex;a;", 1, 0, 1, 1, -1, 1);
        stepsOf("ab;ba;", 1, 1, 2, 1, -1, 2);
        stepsOf("hex;ab;ba;", 1, -1, 1, 1, 1, 3);
        stepsOf("abc;", 0, 1, 1, 3, 0, 9);
        stepsOf("abcb;aadd;dccd;", 0, 3, 9, 4, 0, 16);
        stepsOf("abcd;cdab;", 0, 2, 4, 2, 1, 5);
        stepsOf("abcd;bcda;cdab;dabc;", 1, -1, 2, 2, 2, 8);
        stepsOf("hex;abcd;bcda;cdab;dabc;", 1, -1, 1, 2, 2, 12);
        stepsOf("hex;abcdabcd;dabcdabc;", 0, 2, 4, 4, -2, 12);
        for (int what : new int[] {-1, 3, 4, Integer.MIN_VALUE, Integer.MAX_VALUE}) {
            for (int second = 0; second < 2; second++) {
                boolean thrown = false;
                try {
                    new OrnamentDesk().step(second == 1, what);
                } catch (NoSuchElementException none) {
                    thrown = true;
                }
                yes("step throws for " + what, thrown);
            }
        }
    }

    private static void shifts() {
        promise(17);
        OrnamentDesk desk = desk("ab;ba;");
        due("how many", desk.shifts(0, NONE, 0), 2);
        due("first x", desk.shifts(0, 0, 0), 0);
        due("first y", desk.shifts(0, 0, 1), 0);
        due("next x", desk.shifts(0, 1, 0), 1);
        due("next y", desk.shifts(0, 1, 1), 1);
        due("not so many", desk.shifts(0, 2, 0), -2);
        due("k NONE, what 1", desk.shifts(0, NONE, 1), -2);
        due("k -2", desk.shifts(0, -2, 0), -2);
        due("what 2", desk.shifts(0, 0, 2), -2);
        due("what 2", desk.shifts(0, NONE, 2), -2);
        due("what -1", desk.shifts(0, 0, -1), -2);
        due("TURNING 8 of SQUARE", desk.shifts(8, NONE, 0), -2);
        due("TURNING -1", desk.shifts(-1, NONE, 0), -2);
        for (int far : FAR) {
            due("shifts far off", desk.shifts(far, NONE, 0), -2);
            due("shifts far off", desk.shifts(0, far, 0), -2);
            due("shifts far off", desk.shifts(0, 0, far), -2);
        }
        desk = desk("aab;ccd;");
        due("mirrored about a half", desk.shifts(5, NONE, 0), 1);
        due("mirrored about a half", desk.shifts(5, 0, 0), 1);
        due("mirrored about a half", desk.shifts(5, 0, 1), 0);
        due("a TURNING without", desk.shifts(1, NONE, 0), 0);
        due("a TURNING without", desk.shifts(1, 0, 0), -2);
        desk = new OrnamentDesk();
        due("y rising, then x", desk.shifts(3, 6, 0), 2);
        due("y rising, then x", desk.shifts(3, 6, 1), 1);
        // COLUMNS are not as many as ROWS: a quarter turn must hold in all of the plane.
        due("ab by a quarter", desk("ab;").shifts(1, NONE, 0), 0);
        due("checkers, 2 by 4, by a quarter", desk("ab;ba;ab;ba;").shifts(1, NONE, 0), 4);
        due("HEX 11", desk("hex;ab;").shifts(11, NONE, 0), 1);
        due("HEX 12", desk("hex;ab;").shifts(12, NONE, 0), -2);
    }

    private static void flip() {
        promise(18);
        OrnamentDesk desk = desk("abcd;aabc;adcb;acba;");
        due("a GLIDE", desk.flip(5), 0);
        due("none", desk.flip(4), NONE);
        due("a TURN", desk.flip(0), NONE);
        desk = desk("aab;ccd;");
        due("a MIRROR about a half", desk.flip(5), 1);
        due("y turned round too", desk.flip(4), 1);
        due("none", desk.flip(6), NONE);
        due("no TURNING", desk.flip(8), NONE);
        due("no TURNING", desk.flip(-1), NONE);
        for (int far : FAR) {
            due("flip far off", desk.flip(far), NONE);
        }
        desk = desk("hex;a;");
        for (int t = -1; t < 14; t++) {
            due("flip(" + t + ") of HEX", desk.flip(t), t >= 6 && t < 12 ? 1 : NONE);
        }
    }

    private static void centresOf(String text, int one, int two, int three, int four, int six) {
        OrnamentDesk desk = desk(text);
        due("CENTRES of 1, " + text, desk.centre(1, NONE, 0), one);
        due("CENTRES of 2, " + text, desk.centre(2, NONE, 0), two);
        due("CENTRES of 3, " + text, desk.centre(3, NONE, 0), three);
        due("CENTRES of 4, " + text, desk.centre(4, NONE, 0), four);
        due("CENTRES of 6, " + text, desk.centre(6, NONE, 0), six);
    }

    private static void centre() {
        promise(19);
        centresOf("a;", 32, 2, 0, 2, 0);
        centresOf("hex;a;", 30, 3, 2, 0, 1);
        centresOf("ab;", 68, 4, 0, 0, 0);
        centresOf("ab;ba;", 136, 4, 0, 4, 0);
        centresOf("abc;aad;aaa;", 324, 0, 0, 0, 0);
        OrnamentDesk desk = desk("a;");
        int[][] dues = {{2, 0, 3, 0}, {2, 1, 0, 3}, {4, 0, 0, 0}, {4, 1, 3, 3}, {1, 0, 1, 0}, {1, 31, 5, 5}};
        for (int[] d : dues) {
            due("x of centre " + d[1] + " of " + d[0], desk.centre(d[0], d[1], 0), d[2]);
            due("y of centre " + d[1] + " of " + d[0], desk.centre(d[0], d[1], 1), d[3]);
        }
        due("not so many", desk.centre(4, 2, 0), -2);
        due("not so many", desk.centre(3, 0, 0), -2);
        due("what 2", desk.centre(4, 0, 2), -2);
        due("what -1", desk.centre(4, 0, -1), -2);
        due("k NONE, what 1", desk.centre(4, NONE, 1), -2);
        due("k -2", desk.centre(4, -2, 0), -2);
        for (int m : new int[] {-1, 0, 5, 7, 12}) {
            due("another m", desk.centre(m, NONE, 0), -2);
        }
        for (int far : FAR) {
            due("centre far off", desk.centre(far, NONE, 0), -2);
            due("centre far off", desk.centre(1, far, 0), -2);
            due("centre far off", desk.centre(1, 0, far), -2);
        }
        desk = desk("hex;a;");
        due("of 3, x", desk.centre(3, 0, 0), 2);
        due("of 3, y", desk.centre(3, 0, 1), 2);
        due("of 3, x", desk.centre(3, 1, 0), 4);
        due("of 6, y", desk.centre(6, 0, 1), 0);
    }

    private static void kind() {
        promise(20);
        OrnamentDesk desk = desk("ab;aa;");
        due("(0, 0)", desk.kind(0, 0), 0);
        due("(1, 0)", desk.kind(1, 0), 1);
        due("(0, 1)", desk.kind(0, 1), 2);
        due("(1, 1), a quarter turned to (0, 0)", desk.kind(1, 1), 0);
        due("of the PLANE", desk.kind(-1, 0), 1);
        due("of the PLANE", desk.kind(3, 5), 0);
        for (int far : FAR) {
            due("kind far off", desk.kind(far, far), 0);
            due("kind far off", desk.kind(far, Math.floorMod(far, 2) + 1), Math.floorMod(far, 2) == 0 ? 2 : 1);
        }
        desk = desk("abc;aad;aaa;");
        for (int k = 0; k < 9; k++) {
            due("without a SYMMETRY", desk.kind(k % 3, k / 3), k);
        }
        due("KINDS", desk.count(10), 9);
    }

    private static void stripOf(String text, int cls, int none, int turned, int over, int both) {
        OrnamentDesk desk = desk(text);
        int[] dues = {cls, none, turned, over, both};
        for (int what = 0; what < 5; what++) {
            due("strip(" + what + ") of " + text, desk.strip(what), dues[what]);
        }
    }

    private static void strip() {
        promise(21);
        stripOf("abc;aaa;", 0, 1, 0, 0, 0);
        stripOf("abc;cba;", 1, 1, 0, 0, 1);
        stripOf("aab;ccd;", 2, 1, 1, 0, 0);
        stripOf("abc;ddd;abc;", 3, 1, 0, 1, 0);
        stripOf("abc;", 3, 1, 0, 1, 0);
        stripOf("abcd;cdab;", 4, 1, 0, 1, 0);
        stripOf("aabb;bbaa;", 5, 1, 1, 1, 1);
        stripOf("aab;", 6, 1, 1, 1, 1);
        stripOf("hex;aaaa;aaaa;", 6, 4, 4, 4, 4);
        stripOf("abab;baba;", 5, 2, 2, 2, 2);
        stripOf("abcdabcd;abcdabcd;dddddddd;", 0, 2, 0, 0, 0);
        OrnamentDesk desk = new OrnamentDesk();
        due("strip(5)", desk.strip(5), NONE);
        due("strip(-1)", desk.strip(-1), NONE);
        for (int far : FAR) {
            due("strip far off", desk.strip(far), NONE);
        }
    }

    private static void coloured() {
        promise(22);
        OrnamentDesk desk = desk("ab;ba;");
        due("checkers", desk.coloured(0, false), 4);
        due("checkers, plain", desk.coloured(0, true), 2);
        due("checkers by a quarter", desk.coloured(1, false), 4);
        desk = desk("abc;");
        due("three in a row", desk.coloured(0, false), 3);
        due("three in a row, plain", desk.coloured(0, true), 1);
        due("turned round", desk.coloured(2, false), 3);
        due("turned round, plain", desk.coloured(2, true), 0);
        due("a quarter", desk.coloured(1, false), 0);
        desk = desk("aab;");
        due("two and one", desk.coloured(0, false), 1);
        due("two and one, turned round", desk.coloured(5, false), 1);
        due("TURNING 8 of SQUARE", desk.coloured(8, false), NONE);
        due("TURNING -1", desk.coloured(-1, true), NONE);
        for (int far : FAR) {
            due("coloured far off", desk.coloured(far, false), NONE);
        }
        desk = desk("hex;abc;cab;bca;");
        due("HEX, three COLOURS", desk.coloured(1, false), 9);
        due("HEX, three COLOURS, plain", desk.coloured(1, true), 0);
        due("HEX, three COLOURS, plain", desk.coloured(2, true), 3);
        due("TURNING 11", desk.coloured(11, false), 9);
        due("TURNING 12", desk.coloured(12, false), NONE);
        due("unlike ones must not come together", desk("abac;").coloured(0, false), 2);
    }

    private static void like() {
        promise(23);
        OrnamentDesk desk = desk("abcb;dacd;aacb;bbdb;");
        due("no image", desk.like(0), -2);
        desk.image(0);
        due("as it was", desk.like(0), 0);
        desk.shift(1, 2);
        due("by a SHIFT", desk.like(0), 17);
        desk.undo();
        desk.turn(3);
        due("by a TURNING", desk.like(0), 192);
        desk.shift(-1, 0);
        due("by both", desk.like(0), 192 + 3);
        desk.paint(0, 0, (desk.cell(0, 0) + 1) % 4);
        due("painted", desk.like(0), NONE);
        desk.net(true);
        due("another NET", desk.like(0), NONE);
        due("image not kept", desk.like(1), -2);
        due("no such image", desk.like(3), -2);
        due("no such image", desk.like(-1), -2);
        for (int far : FAR) {
            due("like far off", desk.like(far), -2);
        }
        desk = desk("ab;ab;");
        desk.image(2);
        desk.reduce();
        due("other ROWS", desk.like(2), NONE);
        // One is the other by a quarter in the TILE, and in the PLANE too.
        desk = desk("ab;ab;");
        desk.image(2);
        desk.turn(1);
        due("by a quarter", desk.like(2), 64);
        // With unlike COLUMNS and ROWS, the PLANE by a quarter must still come again by them.
        desk = desk("abab;baba;");
        desk.image(1);
        desk.shift(1, 0);
        due("the first of several", desk.like(1), 1);
    }

    private static void flaws() {
        promise(24);
        OrnamentDesk desk = desk("ab;aa;");
        due("p1", desk.flaws(0), 0);
        due("pg", desk.flaws(3), 1);
        due("cm", desk.flaws(4), 1);
        due("p4", desk.flaws(9), 1);
        due("p3 on SQUARE", desk.flaws(12), NONE);
        due("class 17", desk.flaws(17), NONE);
        due("class -1", desk.flaws(-1), NONE);
        for (int far : FAR) {
            due("flaws far off", desk.flaws(far), NONE);
        }
        desk = desk("hex;ab;aa;");
        due("p1 on HEX", desk.flaws(0), NONE);
        due("p4g on HEX", desk.flaws(11), NONE);
        due("p3 on HEX", desk.flaws(12), 1);
        due("p6m on HEX", desk.flaws(16), 1);
        desk = desk("abc;bda;cab;");
        for (int cls : new int[] {3, 6, 7, 11}) {
            due("halves of 3, class " + cls, desk.flaws(cls), NONE);
        }
        due("cm", desk.flaws(4), 0);
        desk = desk("abc;bda;");
        due("not as many COLUMNS as ROWS", desk.flaws(0), NONE);
        due("unchanged", desk.count(12), 0);
    }

    private static void orbit() {
        promise(25);
        OrnamentDesk desk = new OrnamentDesk();
        due("p4 about (0, 0)", desk.orbit(9, 0, 0, false), 1);
        due("p4 of (1, 0)", desk.orbit(9, 1, 0, false), 4);
        due("its first", desk.orbit(9, 3, 0, true), 1);
        due("its first", desk.orbit(9, 0, 3, true), 1);
        due("p4 of (2, 0)", desk.orbit(9, 0, 2, false), 2);
        due("its first", desk.orbit(9, 0, 2, true), 2);
        due("pg of (1, 3)", desk.orbit(3, 1, 3, false), 2);
        due("its first", desk.orbit(3, 1, 3, true), 8 + 3);
        due("p4m of (1, 2)", desk.orbit(10, 1, 2, false), 4);
        due("its first", desk.orbit(10, 3, 2, true), 8 + 2);
        due("p1", desk.orbit(0, 3, 3, true), 27);
        due("p4g of (0, 0)", desk.orbit(11, 0, 0, false), 2);
        due("p4g of (2, 2)", desk.orbit(11, 2, 2, true), 0);
        due("pmg of (0, 0)", desk.orbit(6, 2, 0, true), 0);
        due("no such CELL", desk.orbit(9, 4, 0, true), NONE);
        due("no such CELL", desk.orbit(9, 0, 4, false), NONE);
        due("no such CELL", desk.orbit(9, -1, 0, true), NONE);
        due("no such CELL", desk.orbit(9, 0, -1, false), NONE);
        due("class 12 on SQUARE", desk.orbit(12, 0, 0, false), NONE);
        due("class -1", desk.orbit(-1, 0, 0, false), NONE);
        for (int far : FAR) {
            due("orbit far off", desk.orbit(far, 0, 0, true), NONE);
            due("orbit far off", desk.orbit(0, far, 0, true), NONE);
            due("orbit far off", desk.orbit(0, 0, far, false), NONE);
        }
        desk.net(true);
        due("p6 of (1, 0)", desk.orbit(15, 1, 0, false), 6);
        due("p3 of (1, 0)", desk.orbit(12, 1, 0, false), 3);
        due("p3 of (1, 0), its first", desk.orbit(12, 0, 3, true), 1);
        due("halves of 3", desk("abc;bda;cab;").orbit(3, 0, 0, false), NONE);
        due("not as many COLUMNS as ROWS", desk("ab;").orbit(0, 0, 0, false), NONE);
    }

    private static void nearest() {
        promise(26);
        due("all alike", desk("aa;aa;").nearest(0), 11);
        due("checkers", desk("ab;ba;").nearest(0), 11);
        OrnamentDesk desk = desk("ab;ab;");
        due("upright lines", desk.nearest(0), 3);
        due("upright lines, 1", desk.nearest(1), 3);
        due("upright lines, 2", desk.nearest(2), 11);
        due("below 0", desk.nearest(-1), NONE);
        due("below 0", desk.nearest(Integer.MIN_VALUE), NONE);
        due("any", desk.nearest(Integer.MAX_VALUE), 11);
        due("1 by 1", desk("a;").nearest(0), 10);
        due("1 by 1, HEX", desk("hex;a;").nearest(0), 16);
        due("HEX, none", desk("hex;ab;aa;").nearest(0), NONE);
        due("HEX, 1", desk("hex;ab;aa;").nearest(1), 16);
        due("not as many COLUMNS as ROWS", desk("ab;").nearest(9), NONE);
        due("p1", desk("abc;aad;aaa;").nearest(0), 0);
    }

    private static void painted() {
        promise(27);
        OrnamentDesk desk = new OrnamentDesk();
        due("one dot", desk.painted(0, 0, 1), 10);
        due("its own", desk.painted(3, 3, 0), 10);
        shows("painted", desk, "aaaa;aaaa;aaaa;aaaa;");
        due("ACTS", desk.count(12), 0);
        due("no such CELL", desk.painted(4, 0, 1), NONE);
        due("no such CELL", desk.painted(0, 4, 1), NONE);
        due("no such CELL", desk.painted(-1, 0, 1), NONE);
        due("no such CELL", desk.painted(0, -1, 1), NONE);
        due("no such COLOUR", desk.painted(0, 0, 4), NONE);
        due("no such COLOUR", desk.painted(0, 0, -1), NONE);
        for (int far : FAR) {
            due("painted far off", desk.painted(far, 0, 1), NONE);
            due("painted far off", desk.painted(0, far, 1), NONE);
            due("painted far off", desk.painted(0, 0, far), NONE);
        }
        desk = desk("ab;");
        due("ab", desk.painted(0, 0, 0), 5);
        due("bb", desk.painted(0, 0, 1), 10);
        due("CLASS now", desk.count(6), 5);
        due("HEX, a dot", desk("hex;aaa;aaa;aaa;").painted(1, 1, 2), 16);
    }

    private static void better() {
        promise(28);
        OrnamentDesk desk = desk("ab;aa;");
        due("the dot away", desk.better(), 4);
        shows("better", desk, "ab;aa;");
        due("ACTS", desk.count(12), 0);
        due("all alike", new OrnamentDesk().better(), NONE);
        due("two of one KIND each", desk("ab;").better(), 1);
        String row = "aaaaaa;";
        due("36 CELLS", desk(row + row + row + row + "aaaaca;" + row).better(), 4 * 32 + 4 * 4);
        String wide = "aaaaaaaa;";
        due("40 CELLS", desk(wide + wide + "aaabaaaa;" + wide + wide).better(), NONE);
    }

    private static void image() {
        promise(29);
        OrnamentDesk desk = desk("ab;cd;");
        yes("image(0)", desk.image(0));
        yes("image(2)", desk.image(2));
        no("image(3)", desk.image(3));
        no("image(-1)", desk.image(-1));
        for (int far : FAR) {
            no("image far off", desk.image(far));
        }
        desk.paint(0, 0, 3);
        due("ACTS", desk.count(12), 1);
        yes("image(0) anew", desk.image(0));
        due("ACTS stay", desk.count(12), 1);
        desk.paint(1, 1, 0);
        yes("again(0)", desk.again(0));
        shows("the later one", desk, "db;cd;");
        yes("again(2)", desk.again(2));
        shows("the earlier one", desk, "ab;cd;");
        no("again(1)", desk.again(1));
    }

    private static void again() {
        promise(30);
        OrnamentDesk desk = desk("hex;ab;cd;");
        say(desk, "?");
        desk.read();
        say(desk, "abc;");
        desk.image(1);
        desk.read();
        due("FAULT", desk.fault(false), 0);
        desk.paint(0, 0, 2);
        no("again(0)", desk.again(0));
        no("again(3)", desk.again(3));
        no("again(-1)", desk.again(-1));
        for (int far : FAR) {
            no("again far off", desk.again(far));
        }
        due("ACTS stay when refused", desk.count(12), 1);
        yes("again(1)", desk.again(1));
        shows("again(1)", desk, "hex;ab;cd;");
        due("FAULT", desk.fault(false), 1);
        due("its place", desk.fault(true), 0);
        due("bytes", desk.count(13), 4);
        due("ACTS", desk.count(12), 0);
        due("undo", desk.undo(), NONE);
        due("read() of what was kept", desk.read(), 3);
        shows("read() of what was kept", desk, "abc;");
        yes("it is kept still", desk.again(1));
        due("bytes", desk.count(13), 4);
    }
}
