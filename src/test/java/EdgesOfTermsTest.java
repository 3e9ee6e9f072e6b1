/** Each sentence of 'What it is' and of the Terms that names an edge, with a test of its own. */
public final class EdgesOfTermsTest extends Checks {
    private static final String NO_STEP_8 =
        "baaaaaaa;aaaaaaaa;aaaaaaaa;aaaaaaaa;aaaaaaaa;aaaaaaaa;aaaaaaaa;aaaaaaaa;";
    private static final String ALIKE_8 =
        "aaaaaaaa;aaaaaaaa;aaaaaaaa;aaaaaaaa;aaaaaaaa;aaaaaaaa;aaaaaaaa;aaaaaaaa;";
    private static final String BASKETWORK =
        "aaaaaaaa;abbbabab;aaaaabab;abbbabab;aaaaaaaa;abababbb;ababaaaa;abababbb;";
    // A tile of each class, in the order of the classes.
    private static final String[] OF_CLASS = {
        "caa;aab;ccc;", "baa;bab;bba;", "abb;baa;bbb;", "bbba;aabb;babb;abba;", "aab;abb;bbb;", "bc;ac;",
        "aaaa;abaa;bbbb;aaab;", "aaabaa;abbbaa;baaabb;baaaaa;bbbaaa;aaabbb;", "aaa;aab;aba;",
        "aaaaa;ababb;abbba;aabbb;abbab;", "ab;aa;", "aabbba;abbbab;bababb;bbaaab;bbbaba;ababbb;",
        "hex;bca;acc;caa;", "hex;bcc;cac;ccc;", "hex;aab;bba;abb;",
        "hex;aabbba;abbaba;babbbb;bbabab;bbbbba;aababb;", "hex;ab;aa;"};

    public static void main(String[] args) {
        whatItIs();
        tileAndPlane();
        turningsAndShifts();
        steps();
        flips();
        classesOfFewTurns();
        classesOfManyTurns();
        centresAndKinds();
        strips();
        stripClasses();
        colouredPlanes();
        made();
        drawn();
        texts();
        tokens();
        faultOne();
        faultsTwoAndThree();
        acts();
        nothingChanged();
        constants();
        end();
    }

    private static int[] turned(boolean hex, int turning, int x, int y) {
        int[][] square = {{x, y}, {-y, x}, {-x, -y}, {y, -x}, {x, -y}, {-x, y}, {y, x}, {-y, -x}};
        int[][] six = {{x, y}, {-y, x + y}, {-x - y, x}, {-x, -y}, {y, -x - y}, {x + y, -x}, {y, x}, {-y, -x},
            {x + y, -y}, {-x - y, y}, {x, -x - y}, {-x, x + y}};
        return hex ? six[turning] : square[turning];
    }

    /** A tile, else wild, that these leave as it is, each a TURNING and its SHIFT. */
    private static String leftBy(boolean hex, int wide, int high, int[]... makers) {
        int[] colour = new int[wide * high];
        java.util.Arrays.fill(colour, NONE);
        int drawn = 4711;
        for (int k = 0; k < colour.length; k++) {
            drawn = drawn * 1103515245 + 12345;
            if (colour[k] == NONE) {
                spread(hex, wide, colour, k, (drawn >>> 16) % 4, makers);
            }
        }
        StringBuilder text = new StringBuilder(hex ? "hex;" : "");
        for (int k = 0; k < colour.length; k++) {
            text.append((char) ('a' + colour[k])).append(k % wide == wide - 1 ? ";" : "");
        }
        return text.toString();
    }

    private static void spread(boolean hex, int wide, int[] colour, int at, int ofColour, int[][] makers) {
        if (colour[at] == NONE) {
            colour[at] = ofColour;
            for (int[] maker : makers) {
                int[] to = turned(hex, maker[0], at % wide, at / wide);
                int x = Math.floorMod(to[0] + maker[1], wide);
                int y = Math.floorMod(to[1] + maker[2], colour.length / wide);
                spread(hex, wide, colour, y * wide + x, ofColour, makers);
            }
        }
    }

    private static void whatItIs() {
        part("What it is");
        edge("An object is used for at most 512 calls after it has been made", () -> {
            OrnamentDesk desk = new OrnamentDesk();
            int painted = 0;
            for (int call = 1; call <= 511; call++) {
                painted += desk.paint(0, 0, call % 2) ? 1 : 0;
            }
            due("511 calls", painted, 511);
            due("the 512th", desk.undo(), 7);
        });
    }

    private static void tileAndPlane() {
        part("Terms 1");
        edge("A TILE has WIDE 1 to 8 COLUMNS (4 at first) and HIGH 1 to 8 ROWS (4)", () -> {
            OrnamentDesk desk = new OrnamentDesk();
            due("WIDE at first", desk.count(0), 4);
            due("HIGH at first", desk.count(1), 4);
            due("WIDE 1", desk("a;b;c;d;a;b;c;d;").count(0), 1);
            due("HIGH 8", desk("a;b;c;d;a;b;c;d;").count(1), 8);
            due("WIDE 8", desk("abcdabcd;").count(0), 8);
            due("HIGH 1", desk("abcdabcd;").count(1), 1);
            say(desk, "abcdabcda;");
            due("WIDE 9", desk.read(), NONE);
            say(desk, "a;b;c;d;a;b;c;d;a;");
            due("HIGH 9", desk.read(), NONE);
            due("made with 9", desk.make(0, 9, 1, 1), NONE);
            due("made with 0", desk.make(0, 0, 1, 1), NONE);
            shows("none of these", desk, AT_FIRST);
        });
        edge("CELLS (x, y), x from 0 on in its COLUMNS, y in its ROWS", () -> {
            OrnamentDesk desk = desk("aaa;aaa;");
            yes("the first", desk.paint(0, 0, 1));
            yes("the last", desk.paint(2, 1, 2));
            no("x 3", desk.paint(3, 1, 2));
            no("y 2", desk.paint(2, 2, 2));
            no("x -1", desk.paint(-1, 0, 2));
            no("y -1", desk.paint(0, -1, 2));
            shows("x goes along a ROW", desk, "baa;aac;");
        });
        edge("each of a COLOUR 0 to 3 (0 at first)", () -> {
            OrnamentDesk desk = new OrnamentDesk();
            due("CELLS of 0 at first", desk.count(20), 16);
            yes("3", desk.paint(0, 0, 3));
            no("4", desk.paint(0, 0, 4));
            no("-1", desk.paint(0, 0, -1));
            due("CELLS of 3", desk.count(23), 1);
        });
        edge("its COLOUR is that of the CELL of the TILE with the remainders by WIDE, by HIGH that are not below 0", () -> {
            OrnamentDesk desk = desk("abc;dab;");
            due("x 3", desk.cell(3, 0), 0);
            due("x -1", desk.cell(-1, 0), 2);
            due("x -3", desk.cell(-3, 0), 0);
            due("x -4", desk.cell(-4, 1), 1);
            due("y 2", desk.cell(2, 2), 2);
            due("y -1", desk.cell(0, -1), 3);
            due("y -2", desk.cell(0, -2), 0);
        });
        edge("The NET is SQUARE (at first) or HEX.", () -> {
            due("at first", new OrnamentDesk().count(2), 0);
            no("SQUARE already", new OrnamentDesk().net(false));
            yes("HEX", new OrnamentDesk().net(true));
        });
        edge("LONG of a step (x, y): SQUARE: x x + y y; HEX: x x + x y + y y.", () -> {
            firstIs("ab;ba;", 1, 1, 2);
            secondIs("ab;ba;", 1, -1, 2);
            firstIs("hex;ab;ba;", 1, -1, 1);
            secondIs("hex;ab;ba;", 1, 1, 3);
            secondIs("hex;abcdaabb;", 8, -4, 48);
            secondIs("abcdaabb;", 8, 0, 64);
        });
    }

    private static void firstIs(String text, int x, int y, int length) {
        OrnamentDesk desk = desk(text);
        due("FIRST's x of " + text, desk.step(false, 0), x);
        due("FIRST's y of " + text, desk.step(false, 1), y);
        due("FIRST's LONG of " + text, desk.step(false, 2), length);
    }

    private static void secondIs(String text, int x, int y, int length) {
        OrnamentDesk desk = desk(text);
        due("SECOND's x of " + text, desk.step(true, 0), x);
        due("SECOND's y of " + text, desk.step(true, 1), y);
        due("SECOND's LONG of " + text, desk.step(true, 2), length);
    }

    private static void turnsTo(String net, int turning, String want) {
        OrnamentDesk desk = desk(net + "abcaa;daaaa;aaaaa;aaaaa;aaaaa;");
        yes(net + " turn(" + turning + ")", desk.turn(turning));
        shows(net + " turn(" + turning + ")", desk, net + want);
    }

    private static void turningsAndShifts() {
        part("Terms 1");
        edge("SQUARE: 0: (x, y), 1: (-y, x), 2: (-x, -y), 3: (y, -x), 4: (x, -y), 5: (-x, y), 6: (y, x), 7: (-y, -x).",
            () -> {
                // b was at (1, 0), c at (2, 0), d at (0, 1); below 0 they come in from the far side.
                no("0", desk("abcaa;daaaa;aaaaa;aaaaa;aaaaa;").turn(0));
                turnsTo("", 1, "aaaad;baaaa;caaaa;aaaaa;aaaaa;");
                turnsTo("", 2, "aaacb;aaaaa;aaaaa;aaaaa;daaaa;");
                turnsTo("", 3, "adaaa;aaaaa;aaaaa;caaaa;baaaa;");
                turnsTo("", 4, "abcaa;aaaaa;aaaaa;aaaaa;daaaa;");
                turnsTo("", 5, "aaacb;daaaa;aaaaa;aaaaa;aaaaa;");
                turnsTo("", 6, "adaaa;baaaa;caaaa;aaaaa;aaaaa;");
                turnsTo("", 7, "aaaad;aaaaa;aaaaa;caaaa;baaaa;");
                no("8", desk("abcaa;daaaa;aaaaa;aaaaa;aaaaa;").turn(8));
            });
        edge("HEX: 0: (x, y), 1: (-y, x + y), 2: (-x - y, x), 3: (-x, -y), 4: (y, -x - y), 5: (x + y, -x), 6: (y, x), "
            + "7: (-y, -x), 8: (x + y, -y), 9: (-x - y, y), 10: (x, -x - y), 11: (-x, x + y).", () -> {
                no("0", desk("hex;abcaa;daaaa;aaaaa;aaaaa;aaaaa;").turn(0));
                turnsTo("hex;", 1, "aaaaa;baaad;caaaa;aaaaa;aaaaa;");
                turnsTo("hex;", 2, "aaaad;aaaab;aaaca;aaaaa;aaaaa;");
                turnsTo("hex;", 3, "aaacb;aaaaa;aaaaa;aaaaa;daaaa;");
                turnsTo("hex;", 4, "aaaaa;aaaaa;aaaaa;caaaa;bdaaa;");
                turnsTo("hex;", 5, "adaaa;aaaaa;aaaaa;aacaa;abaaa;");
                turnsTo("hex;", 6, "adaaa;baaaa;caaaa;aaaaa;aaaaa;");
                turnsTo("hex;", 7, "aaaad;aaaaa;aaaaa;caaaa;baaaa;");
                turnsTo("hex;", 8, "abcaa;aaaaa;aaaaa;aaaaa;adaaa;");
                turnsTo("hex;", 9, "aaacb;aaaad;aaaaa;aaaaa;aaaaa;");
                turnsTo("hex;", 10, "aaaaa;aaaaa;aaaaa;aacaa;dbaaa;");
                turnsTo("hex;", 11, "aaaaa;daaab;aaaca;aaaaa;aaaaa;");
                no("12", desk("hex;abcaa;daaaa;aaaaa;aaaaa;aaaaa;").turn(12));
            });
        edge("FLIPS are of SQUARE 4 on, of HEX 6 on; the others are TURNS.", () -> {
            OrnamentDesk desk = new OrnamentDesk();
            due("SQUARE 3", desk.flip(3), NONE);
            due("SQUARE 4", desk.flip(4), 1);
            due("TURNS of SQUARE", desk.count(5), 4);
            due("FLIPS of SQUARE", desk.count(7), 4);
            desk.net(true);
            due("HEX 5", desk.flip(5), NONE);
            due("HEX 6", desk.flip(6), 1);
            due("TURNS of HEX", desk.count(5), 6);
            due("FLIPS of HEX", desk.count(7), 6);
        });
        edge("each CELL of the PLANE has the COLOUR of that to which its (x, y) comes by the TURNING, and the SHIFT added", () -> {
            // (0, 0) and (1, 0) stay by TURNING 8, but (0, 1), outside of the tile, comes to (1, -1).
            due("the CELLS of the TILE alone are not all", desk("hex;ab;").shifts(8, NONE, 0), 0);
            due("(1, 0) behind TURNING 5", desk("aab;ccd;").shifts(5, 0, 0), 1);
            due("a quarter of a tile not as WIDE as HIGH", desk("abab;baba;").shifts(1, NONE, 0), 4);
        });
        edge("SHIFTS of a TURNING: those, x below WIDE, y below HIGH, none below 0, with which it is one.", () -> {
            OrnamentDesk desk = desk("aaa;aaa;");
            due("how many", desk.shifts(4, NONE, 0), 6);
            due("the first's x", desk.shifts(4, 0, 0), 0);
            due("the first's y", desk.shifts(4, 0, 1), 0);
            due("the last's x", desk.shifts(4, 5, 0), 2);
            due("the last's y", desk.shifts(4, 5, 1), 1);
            due("one more", desk.shifts(4, 6, 0), -2);
        });
    }

    private static void steps() {
        part("Terms 1");
        edge("STEPS: SHIFTS of TURNING 0, and all that differ from them by multiples of WIDE in x, of HIGH in y.", () -> {
            firstIs(NO_STEP_8, 8, 0, 64);
            secondIs(NO_STEP_8, 0, 8, 64);
            secondIs("hex;" + NO_STEP_8, 8, -8, 64);
            // SHIFT (1, 3) is the STEP (1, -1).
            firstIs("abcd;bcda;cdab;dabc;", 1, -1, 2);
        });
        edge("SPAN: how many of them there are among those.", () -> {
            due("none but (0, 0)", desk(NO_STEP_8).count(3), 1);
            due("all", desk(ALIKE_8).count(3), 64);
            due("1 by 1", desk("d;").count(3), 1);
            due("checkers", desk("abab;baba;").count(3), 4);
        });
        edge("MOTIF: WIDE times HIGH by SPAN.", () -> {
            due("none but (0, 0)", desk(NO_STEP_8).count(4), 64);
            due("all", desk(ALIKE_8).count(4), 1);
            due("1 by 1", desk("d;").count(4), 1);
            due("checkers", desk("abab;baba;").count(4), 2);
        });
        edge("A step comes ahead of another one, if it is less LONG", () -> {
            firstIs("abc;", 0, 1, 1);
            firstIs("a;b;c;", 1, 0, 1);
            secondIs("abc;", 3, 0, 9);
        });
        edge("as LONG, if its x is greater", () -> {
            firstIs("a;", 1, 0, 1);
            firstIs("ab;cd;", 2, 0, 4);
            secondIs("hex;ab;cd;", 2, -2, 4);
        });
        edge("of like x, if its y is", () -> {
            firstIs("ab;ba;", 1, 1, 2);
            secondIs("a;", 0, 1, 1);
            firstIs("hex;a;", 1, 0, 1);
        });
        edge("FIRST is that of all STEPS but (0, 0) that is ahead of all", () -> {
            firstIs("d;", 1, 0, 1);
            firstIs(ALIKE_8, 1, 0, 1);
            firstIs("hex;" + NO_STEP_8, 8, 0, 64);
        });
        edge("SECOND the one ahead of all that are no multiple of FIRST by a number (of a half, too).", () -> {
            // (0, -1), (0, 2) to (0, 7) are all less LONG than (8, 0).
            firstIs("abcdaabb;", 0, 1, 1);
            secondIs("abcdaabb;", 8, 0, 64);
            firstIs("a;b;c;d;a;a;b;b;", 1, 0, 1);
            secondIs("a;b;c;d;a;a;b;b;", 0, 8, 64);
            secondIs("hex;a;b;c;d;a;a;b;b;", 4, -8, 48);
        });
    }

    private static void flips() {
        part("Terms 2");
        edge("ORDER: how many TURNS have SHIFTS (they come from 1 of them: 1, 2, 3, 4, 6).", () -> {
            due("1", desk(OF_CLASS[0]).count(5), 1);
            due("2", desk(OF_CLASS[1]).count(5), 2);
            due("3", desk(OF_CLASS[12]).count(5), 3);
            due("4", desk(OF_CLASS[9]).count(5), 4);
            due("6", desk(OF_CLASS[15]).count(5), 6);
            due("2 on HEX", desk("hex;ab;").count(5), 2);
        });
        edge("is a MIRROR, if there is a SYMMETRY of it (by any SHIFT, all STEPS added) that, done twice, "
            + "leaves each CELL where it is", () -> {
                // (y, x) and SHIFT (1, 2): done twice it is (3, 3); as (1, -1) it leaves all.
                OrnamentDesk desk = desk("abc;bda;cab;");
                due("by (0, 0)", desk.flip(6), 1);
                desk.shift(1, 0);
                due("its SHIFT's x", desk.shifts(6, 0, 0), 1);
                due("its SHIFT's y", desk.shifts(6, 0, 1), 2);
                due("by (1, -1)", desk.flip(6), 1);
                due("by (1, 0)", desk("aabb;aabb;aacc;").flip(5), 1);
                // The first SHIFT, (1, 1), is that of a GLIDE; the next one, (0, 3), leaves all.
                desk = desk("ab;ba;ba;ab;");
                due("the first SHIFT's x", desk.shifts(4, 0, 0), 1);
                due("the first SHIFT's y", desk.shifts(4, 0, 1), 1);
                due("by a later SHIFT", desk.flip(4), 1);
            });
        edge("A FLIP that has SHIFTS is a MIRROR", () -> {
            for (int flip = 4; flip < 12; flip++) {
                mirrorAnywhere(false, flip < 8 ? flip : 7);
                mirrorAnywhere(true, flip < 6 ? 6 : flip);
            }
        });
        edge("else a GLIDE.", () -> {
            OrnamentDesk desk = desk(OF_CLASS[3]);
            due("(-x, y + 2)", desk.shifts(5, 0, 1), 2);
            due("a GLIDE", desk.flip(5), 0);
            due("GLIDES", desk.count(8), 1);
            due("MIRRORS", desk.count(7), 0);
            // Each by half a STEP that the FLIP leaves, where the STEPS are PARTED.
            glide(false, 4, leftBy(false, 4, 6, new int[] {4, 2, 0}));
            glide(false, 5, leftBy(false, 6, 4, new int[] {5, 0, 2}));
            for (int net = 0; net < 2; net++) {
                boolean hex = net == 1;
                glide(hex, 6, leftBy(hex, 8, 8, new int[] {0, 4, 4}, new int[] {6, 2, 2}));
                glide(hex, 7, leftBy(hex, 8, 8, new int[] {0, 4, 4}, new int[] {7, 2, -2}));
            }
            glide(true, 8, leftBy(true, 4, 8, new int[] {8, 2, 0}));
            glide(true, 9, leftBy(true, 4, 8, new int[] {9, 2, -4}));
            glide(true, 10, leftBy(true, 8, 4, new int[] {10, 4, -2}));
            glide(true, 11, leftBy(true, 8, 4, new int[] {11, 0, 2}));
        });
        edge("It is PARTED, if each STEP is one that the FLIP leaves as it is, and one that it turns round "
            + "((0, 0) of either, too), together", () -> {
                due("(1, 0) and (0, 3) each by itself", desk("a;b;c;").count(9), 0);
                // FLIP 11 leaves (0, 1) and turns (2, -1) round: (2, 0) is both together.
                due("on HEX", desk("hex;ab;").count(9), 0);
            });
        edge("else CROSSED.", () -> {
            due("FLIPS 6 and 7 of a square STEP", desk("a;").count(9), 2);
            due("FLIPS 4 and 5 of checkers", desk("ab;ba;").count(9), 2);
            due("all of HEX", desk("hex;a;").count(9), 6);
            due("FLIP 6 alone", desk("abc;bda;cab;").count(9), 1);
        });
    }

    private static void mirrorAnywhere(boolean hex, int flip) {
        OrnamentDesk desk = desk(leftBy(hex, 6, 6, new int[] {flip, 0, 0}));
        for (int k = 0; k < 36; k++) {
            due("FLIP " + flip + (hex ? " of HEX" : " of SQUARE") + " behind " + k + " steps", desk.flip(flip), 1);
            due("MIRRORS", desk.count(7), 1);
            desk.shift(1, k % 6 == 5 ? 1 : 0);
        }
    }

    private static void glide(boolean hex, int flip, String text) {
        OrnamentDesk desk = desk(text);
        for (int k = 0; k < 4; k++) {
            due("FLIP " + flip + (hex ? " of HEX, " : " of SQUARE, ") + text, desk.flip(flip), 0);
            due("CROSSED of " + text, desk.count(9), 0);
            due("GLIDES of " + text, desk.count(8), 1);
            desk.shift(1, k % 2);
        }
    }

    private static void classIs(String text, int cls) {
        due("CLASS of " + text, desk(text).count(6), cls);
    }

    private static void classesOfFewTurns() {
        part("Terms 2");
        edge("ORDER 1: without FLIPS that have SHIFTS 0 (p1)", () -> {
            classIs(OF_CLASS[0], 0);
            classIs("abc;aad;aaa;", 0);
            classIs("hex;abc;aad;aaa;", 0);
        });
        edge("PARTED: MIRROR 2 (pm), GLIDE 3 (pg)", () -> {
            classIs(OF_CLASS[2], 2);
            classIs("abcd;", 2);
            classIs("a;b;c;d;", 2);
            classIs(OF_CLASS[3], 3);
            classIs("abcd;aabc;adcb;acba;", 3);
        });
        edge("CROSSED 4 (cm)", () -> {
            classIs(OF_CLASS[4], 4);
            classIs("abc;bda;cab;", 4);
            classIs("hex;abc;bca;cab;", 4);
        });
        edge("ORDER 2: without 1 (p2)", () -> {
            classIs(OF_CLASS[1], 1);
            classIs("abab;abcd;adcb;", 1);
        });
        edge("CROSSED 8 (cmm)", () -> {
            classIs(OF_CLASS[8], 8);
            classIs("baaa;aaba;", 8);
        });
        edge("PARTED: of both of its FLIPS MIRRORS 5 (pmm), one 6 (pmg), none 7 (pgg)", () -> {
            classIs(OF_CLASS[5], 5);
            classIs("ab;", 5);
            classIs("hex;ab;", 5);
            classIs(OF_CLASS[6], 6);
            classIs("aabb;abba;", 6);
            classIs(OF_CLASS[7], 7);
        });
    }

    private static void classesOfManyTurns() {
        part("Terms 2");
        edge("ORDER 4: without 9 (p4)", () -> {
            classIs(OF_CLASS[9], 9);
            // FIRST is (2, 1), which no FLIP leaves.
            classIs("baaaa;aabaa;aaaab;abaaa;aaaba;", 9);
        });
        edge("if the FLIP that leaves FIRST as it is is a MIRROR 10 (p4m), else 11 (p4g)", () -> {
            classIs("a;", 10);
            classIs(OF_CLASS[10], 10);
            classIs("ab;ba;", 10);
            classIs(OF_CLASS[11], 11);
            classIs(BASKETWORK, 11);
            firstIs(BASKETWORK, 4, 4, 32);
        });
        edge("ORDER 3: without 12 (p3)", () -> {
            classIs(OF_CLASS[12], 12);
            // x + 5 y by 7: 0 a, 1 2 4 b, 3 5 6 c: a third of a turn makes four times as much of it.
            classIs("hex;abbcbcc;ccabbcb;cbccabb;bbcbcca;cabbcbc;bccabbc;bcbccab;", 12);
        });
        edge("if a FLIP that has SHIFTS turns any STEP round ((x, y) to (-x, -y)) that is as LONG as FIRST "
            + "13 (p3m1), else 14 (p31m)", () -> {
                classIs(OF_CLASS[13], 13);
                classIs("hex;abc;cab;bca;", 13);
                classIs(OF_CLASS[14], 14);
            });
        edge("ORDER 6: without 15 (p6), else 16 (p6m)", () -> {
            classIs(OF_CLASS[15], 15);
            // A dot where x + 5 y is a multiple of 7.
            classIs("hex;baaaaaa;aabaaaa;aaaabaa;aaaaaab;abaaaaa;aaabaaa;aaaaaba;", 15);
            classIs(OF_CLASS[16], 16);
            classIs("hex;d;", 16);
        });
    }

    private static void centresAndKinds() {
        part("Terms 2");
        edge("points (x / 6, y / 6) with whole x from 0 on below 6 WIDE, y below 6 HIGH", () -> {
            OrnamentDesk desk = desk(OF_CLASS[0]);
            due("all points", desk.centre(1, NONE, 0), 18 * 18);
            due("the first's x", desk.centre(1, 0, 0), 0);
            due("the first's y", desk.centre(1, 0, 1), 0);
            due("the last's x", desk.centre(1, 18 * 18 - 1, 0), 17);
            due("the last's y", desk.centre(1, 18 * 18 - 1, 1), 17);
            desk = desk("caab;aabb;cccc;caba;cbab;");
            due("6 WIDE times 6 HIGH", desk.centre(1, NONE, 0), 24 * 30);
            due("the 25th's x", desk.centre(1, 24, 0), 0);
            due("the 25th's y", desk.centre(1, 24, 1), 1);
        });
        edge("of such a point a TURN is, if a SYMMETRY of it (by any SHIFT, all STEPS added) leaves it where it is", () -> {
            // Half a turn about (5/2, 1/2) has SHIFT (5, 1), which is (2, 1) and the STEP (3, 0).
            OrnamentDesk desk = desk("aab;baa;");
            due("of 2", desk.centre(2, NONE, 0), 4);
            due("the first's x", desk.centre(2, 0, 0), 6);
            due("the first's y", desk.centre(2, 0, 1), 3);
            due("the second's x", desk.centre(2, 1, 0), 15);
            due("the second's y", desk.centre(2, 1, 1), 3);
            due("the last's x", desk.centre(2, 3, 0), 15);
            due("the last's y", desk.centre(2, 3, 1), 9);
            desk = desk(leftBy(false, 8, 8, new int[] {2, 0, 0}));
            desk.shift(1, 3);
            int[][] dues = {{6, 18}, {30, 18}, {6, 42}, {30, 42}};
            for (int k = 0; k < 4; k++) {
                due("8 by 8, x of " + k, desk.centre(2, k, 0), dues[k][0]);
                due("8 by 8, y of " + k, desk.centre(2, k, 1), dues[k][1]);
            }
            due("8 by 8, no more", desk.centre(2, NONE, 0), 4);
        });
        edge("It is a CENTRE of m, if m TURNS are (TURNING 0, too).", () -> {
            OrnamentDesk desk = desk("hex;a;");
            due("1", desk.centre(1, NONE, 0), 30);
            due("2", desk.centre(2, NONE, 0), 3);
            due("3", desk.centre(3, NONE, 0), 2);
            due("4", desk.centre(4, NONE, 0), 0);
            due("6", desk.centre(6, NONE, 0), 1);
            due("4 on SQUARE", desk("a;").centre(4, NONE, 0), 2);
        });
        edge("CELLS of the PLANE are of one KIND, if a SYMMETRY (STEPS, too) brings one to the other.", () -> {
            OrnamentDesk desk = desk("abab;baba;");
            due("by a STEP", desk.kind(1, 1), 0);
            due("not by one", desk.kind(1, 0), 1);
            due("by a MIRROR", desk("aab;ccd;").kind(1, 0), 0);
            due("by a TURN", desk(OF_CLASS[1]).kind(2, 1), desk(OF_CLASS[1]).kind(1, 2));
            due("of one COLOUR, but of two KINDS", desk("ab;aa;").kind(0, 1), 2);
        });
        edge("How many KINDS: of all CELLS.", () -> {
            due("all of one", desk(ALIKE_8).count(10), 1);
            due("each its own", desk(OF_CLASS[0]).count(10), 9);
            due("1 by 1", desk("d;").count(10), 1);
            // (x, y) of 8 by 8 about a dot: 0 to 4 each way, one not above the other.
            due("about a dot", desk(NO_STEP_8).count(10), 15);
        });
    }

    private static void stripIs(String text, int what, int want) {
        due("strip(" + what + ") of " + text, desk(text).strip(what), want);
    }

    private static void strips() {
        part("Terms 2");
        edge("STRIP: the ROWS of the TILE alone, y from 0 to HIGH less 1, COLUMNS for ever.", () -> {
            // The PLANE has FLIP 4 about ROW 0, the STRIP has none.
            due("the PLANE", desk("abc;ddd;ddd;").shifts(4, NONE, 0), 1);
            stripIs("abc;ddd;ddd;", 3, 0);
            // By COLUMNS that go on for ever the first comes behind the last.
            stripIs("baa;", 2, 1);
        });
        edge("WAYS of it: 0 (x, y), 1 (-x, y), 2 (x, HIGH - 1 - y), 3 (-x, HIGH - 1 - y)", () -> {
            stripIs("abc;cba;", 1, 1);
            stripIs("abc;cba;", 2, 0);
            stripIs("abc;cba;", 3, 0);
            stripIs("abc;cba;", 4, 1);
            stripIs("aab;ccd;", 2, 1);
            stripIs("abc;ddd;abc;", 3, 1);
            stripIs("hex;abc;ddd;abc;", 3, 1);
        });
        edge("SHIFTS of a WAY: numbers below WIDE, 0 too", () -> {
            stripIs("abcdabcd;", 1, 2);
            stripIs("aaaaaaaa;", 1, 8);
            stripIs("abca;", 1, 1);
            stripIs("d;", 4, 1);
        });
    }

    private static void stripClasses() {
        part("Terms 2");
        edge("if WAY 2 has SHIFT 0: 6, if WAY 1 has any", () -> {
            stripIs("aab;", 0, 6);
            stripIs("d;", 0, 6);
            stripIs("aab;ccc;aab;", 0, 6);
        });
        edge(", else 3;", () -> {
            stripIs("abc;", 0, 3);
            stripIs("abc;ddd;abc;", 0, 3);
        });
        edge("else, if WAY 2 has any: 5, if WAY 1 has any", () -> {
            stripIs("aabb;bbaa;", 0, 5);
            stripIs("ab;ba;", 0, 5);
        });
        edge(", else 4;", () -> {
            stripIs("abcd;cdab;", 0, 4);
            stripIs("abcdabdd;abddabcd;", 0, 4);
        });
        edge("else 2, if WAY 1 has any", () -> {
            stripIs("aab;ccd;", 0, 2);
            stripIs("a;b;", 0, 2);
        });
        edge("else 1, if WAY 3 has any", () -> {
            stripIs("abc;cba;", 0, 1);
            stripIs("abcb;aadc;cdaa;bcba;", 0, 1);
        });
        edge("else 0.", () -> {
            stripIs("abc;aaa;", 0, 0);
            stripIs("hex;abcdabca;bbbbbbbb;", 0, 0);
        });
    }

    private static void colouredPlanes() {
        part("Terms 2");
        edge("if CELLS of like COLOUR come to CELLS of like COLOUR by them", () -> {
            due("a b a c: by (2, 0), not by (1, 0)", desk("abac;").coloured(0, false), 2);
            due("a a b: by (0, 0) alone", desk("aab;").coloured(0, false), 1);
        });
        edge("those of unlike COLOUR to unlike ones", () -> {
            due("a b c, turned round", desk("abc;").coloured(2, false), 3);
            // By TURNING 1 all of a COLUMN, a and b, come to one ROW, which is of both.
            due("a b by a quarter", desk("ab;").coloured(1, false), 0);
            // The ROWS come to COLUMNS: a and b would come to CELLS that are all alike in a ROW.
            due("ROWS by a quarter", desk("aa;bb;").coloured(1, false), 0);
        });
        edge("(SHIFTS with x below WIDE, y below HIGH, none below 0).", () -> {
            due("8 by 8", desk(ALIKE_8).coloured(0, false), 64);
            due("1 by 1", desk("d;").coloured(3, false), 1);
            due("3 by 2", desk("aaa;aaa;").coloured(4, false), 6);
        });
    }

    // On 8 by 8, the ORBIT of (1, 2), done by hand, by the remainders: the CELLS as 10 x + y, the first one ahead.
    private static final int[][] ORBIT_OF_1_2 = {
        {12}, {12, 76}, {12, 72}, {12, 76}, {21, 12}, {12, 72, 16, 76}, {12, 76, 32, 56}, {12, 76, 36, 52},
        {21, 12, 76, 67}, {61, 12, 76, 27}, {21, 61, 12, 72, 16, 76, 27, 67}, {61, 12, 76, 27, 23, 36, 65, 52},
        {51, 12, 25}, {21, 12, 51, 25, 15, 52}, {51, 12, 25, 67, 73, 36}, {51, 12, 63, 76, 25, 37},
        {21, 12, 63, 51, 76, 25, 37, 36, 15, 67, 52, 73}};

    private static void orbitOf12(int... classes) {
        for (int cls : classes) {
            OrnamentDesk desk = desk(cls >= 12 ? "hex;" + ALIKE_8 : ALIKE_8);
            int[] cells = ORBIT_OF_1_2[cls];
            for (int cell : cells) {
                String what = "class " + cls + ", (" + cell / 10 + ", " + cell % 10 + ")";
                due(what, desk.orbit(cls, cell / 10, cell % 10, false), cells.length);
                due(what + ", the first", desk.orbit(cls, cell / 10, cell % 10, true), 8 * (cells[0] % 10) + cells[0] / 10);
            }
        }
    }

    private static void oneOrbit(int cls, int x, int y, int first) {
        due("class " + cls + ", (" + x + ", " + y + ")", desk(ALIKE_8).orbit(cls, x, y, true), first);
    }

    private static void made() {
        part("Terms 3");
        edge("SQUARE alone: p1 none; p2 2; pm 5; pg 5 and (0, n/2); cm 6; pmm 5, 4; pmg 2, 5 and (n/2, 0); "
            + "pgg 2, 5 and (n/2, n/2); cmm 2, 6; p4 1; p4m 1, 6; p4g 1, 7 and (n/2, n/2)", () -> {
                orbitOf12(0, 1, 2, 3, 4, 5, 6, 7, 8, 9, 10, 11);
                oneOrbit(3, 0, 4, 0);
                oneOrbit(6, 4, 3, 24);
                oneOrbit(7, 4, 4, 0);
                oneOrbit(11, 4, 4, 0);
                due("p3 on SQUARE", desk(ALIKE_8).flaws(12), NONE);
                due("p6m on SQUARE", desk(ALIKE_8).flaws(16), NONE);
            });
        edge("HEX alone: p3 2; p3m1 2, 6; p31m 2, 7; p6 1; p6m 1, 6.", () -> {
            orbitOf12(12, 13, 14, 15, 16);
            due("p1 on HEX", desk("hex;" + ALIKE_8).flaws(0), NONE);
            due("p4g on HEX", desk("hex;" + ALIKE_8).flaws(11), NONE);
        });
        edge("(With halves n must be even.)", () -> {
            for (int n = 1; n <= 8; n++) {
                for (int cls = 0; cls < 17; cls++) {
                    boolean halves = cls == 3 || cls == 6 || cls == 7 || cls == 11;
                    int got = new OrnamentDesk().make(cls, n, 2, 1);
                    due("class " + cls + " of " + n, got == NONE ? 1 : 0, halves && n % 2 == 1 ? 1 : 0);
                }
            }
        });
        edge("CELLS of the TILE are of one ORBIT, if these, one behind the other, bring one to the other (by the remainders).",
            () -> {
                due("1 by 1", desk("d;").orbit(10, 0, 0, false), 1);
                due("of its own", desk(ALIKE_8).orbit(9, 4, 4, false), 1);
                due("p4m, four behind one another", desk(ALIKE_8).orbit(10, 7, 1, true), 9);
                due("p4 of (4, 0) and (0, 4)", desk(ALIKE_8).orbit(9, 0, 4, true), 4);
            });
        edge("FLAWS of a class: the fewest CELLS of the TILE that must have another COLOUR so that all of each ORBIT are alike.",
            () -> {
                due("none", desk("ab;aa;").flaws(0), 0);
                due("one of two", desk("ab;aa;").flaws(9), 1);
                // p4 of 3 by 3: a; d c d d; d a a d.
                due("one of four, two of four", desk("adc;dda;dad;").flaws(9), 3);
                due("three of four", desk("aab;cda;aaa;").flaws(9), 3);
            });
    }

    private static void drawn() {
        part("Terms 3");
        edge("x (a SEED at first) becomes x * 1103515245 + 12345 (of 32 bits)", () -> {
            // 0 becomes 12345, whose higher bits are 0, and that 0xd3dc167e, whose higher bits are 54236.
            OrnamentDesk desk = new OrnamentDesk();
            desk.make(0, 2, 4, 0);
            due("the first of SEED 0", desk.cell(0, 0), 0);
            due("the second", desk.cell(1, 0), 54236 % 4);
            desk.make(0, 2, 3, 0);
            due("the second by 3", desk.cell(1, 0), 54236 % 3);
        });
        edge("it is x shifted right by 16 without sign, remainder by m", () -> {
            for (int seed : new int[] {-1, Integer.MIN_VALUE, Integer.MAX_VALUE, 77, -123456789}) {
                for (int m = 1; m <= 4; m++) {
                    OrnamentDesk desk = new OrnamentDesk();
                    desk.make(0, 1, m, seed);
                    long x = (seed * 1103515245L + 12345L) & 0xffffffffL;
                    due("SEED " + seed + " below " + m, desk.cell(0, 0), (x >> 16) % m);
                }
            }
        });
    }

    private static void faultOf(String text, int number, int place) {
        OrnamentDesk desk = new OrnamentDesk();
        say(desk, text);
        due("read() of <" + text + "> is refused", desk.read() == NONE ? 1 : 0, number == 0 ? 0 : 1);
        due("FAULT of <" + text + ">", desk.fault(false), number);
        due("its place in <" + text + ">", desk.fault(true), place);
        if (number != 0) {
            shows("<" + text + ">", desk, AT_FIRST);
        }
    }

    private static void texts() {
        part("Terms 3");
        edge("THE TEXT has at most 200 bytes.", () -> {
            OrnamentDesk desk = new OrnamentDesk();
            say(desk, " ".repeat(198) + "a;");
            due("200 bytes", desk.count(13), 200);
            due("no more", desk.tell(eight("b")), NONE);
            due("read() of 200 bytes", desk.read(), 1);
        });
        edge("square ; or hex ;", () -> {
            shows("square ;", desk("square ;a;"), "a;");
            shows("hex ;", desk("hex ;a;"), "hex;a;");
            faultOf("square a;", 1, 7);
            faultOf("hex a;", 1, 4);
        });
        edge("a word of 1 to 8 letters, a to d: a ROW, the COLOURS 0 to 3 of its CELLS", () -> {
            shows("1 letter", desk("d;"), "d;");
            shows("8 letters", desk("abcddcba;"), "abcddcba;");
            due("a is 0", desk("abcd;").cell(0, 0), 0);
            due("d is 3", desk("abcd;").cell(3, 0), 3);
            faultOf("abcddcbaa;", 1, 0);
            faultOf("abce;", 1, 0);
        });
        edge("any number of these in any order", () -> {
            shows("between ROWS", desk("a;hex;b;square;c;hex;"), "hex;a;b;c;");
            shows("fifty", desk("hex;".repeat(49) + "ad;"), "hex;ad;");
        });
        edge("at least one ROW, at most 8", () -> {
            faultOf("", 1, 0);
            faultOf("square;", 1, 7);
            faultOf("a;", 0, NONE);
            faultOf("a;b;c;d;a;b;c;d;", 0, NONE);
            faultOf("a;b;c;d;a;b;c;d;a;", 3, 16);
        });
        edge("the first ROW is y 0", () -> {
            OrnamentDesk desk = desk("ab;cd;");
            due("y 0", desk.cell(0, 0), 0);
            due("y 1", desk.cell(0, 1), 2);
        });
        edge("The later of square, hex strikes.", () -> {
            shows("square", desk("hex;square;a;"), "a;");
            shows("hex", desk("square;hex;a;"), "hex;a;");
            shows("behind the ROW", desk("hex;a;square;"), "a;");
        });
    }

    private static void tokens() {
        part("Terms 3");
        edge("TOKENS, each as long as it goes", () -> {
            faultOf("hexa;", 1, 0);
            faultOf("hexsquare;", 1, 0);
            faultOf("ahex;", 1, 0);
            faultOf("a;squarea;", 1, 2);
            faultOf("abcdabcdabcdabcd;", 1, 0);
        });
        edge("with blanks (32, 10) between where one likes", () -> {
            shows("blanks", desk("\n \nhex\n ;  ab \n;\n\nba; "), "hex;ab;ba;");
            shows("none", desk("hex;ab;ba;"), "hex;ab;ba;");
            faultOf("a b;", 1, 2);
            faultOf("he x;a;", 1, 0);
            for (char sign : new char[] {1, 9, 11, 13, 31, 33, 127, 160}) {
                faultOf("a;" + sign, 1, 2);
            }
        });
        edge("words, letters a to z", () -> {
            faultOf("`;", 1, 0);
            faultOf("a`;", 1, 1);
            faultOf("z;", 1, 0);
            faultOf("az;", 1, 0);
            faultOf("a{;", 1, 1);
            faultOf("{;", 1, 0);
            faultOf("aB;", 1, 1);
            faultOf("Hex;a;", 1, 0);
        });
        edge("the sign ;", () -> {
            faultOf("a:", 1, 1);
            faultOf("a<", 1, 1);
            faultOf("a,", 1, 1);
        });
    }

    private static void faultOne() {
        part("Terms 3");
        edge("with the place (the byte from 0 on; the end's: how many bytes there are)", () -> {
            faultOf("?", 1, 0);
            faultOf("  ?", 1, 2);
            faultOf("a", 1, 1);
            faultOf("hex; \n", 1, 6);
            OrnamentDesk desk = new OrnamentDesk();
            say(desk, " ".repeat(200));
            desk.read();
            due("the end of 200", desk.fault(true), 200);
            say(desk, " ".repeat(199) + "?");
            desk.read();
            due("the last byte of 200", desk.fault(true), 199);
        });
        edge("1 the first token that can not stand there", () -> {
            faultOf(";", 1, 0);
            faultOf("a;;", 1, 2);
            faultOf("a b", 1, 2);
            faultOf("hex hex;a;", 1, 4);
            faultOf("a; ;;", 1, 3);
        });
        edge("(another word, a word of 9 letters and more, too)", () -> {
            faultOf("he;", 1, 0);
            faultOf("dex;a;", 1, 0);
            faultOf("hey;a;", 1, 0);
            faultOf("aquare;a;", 1, 0);
            faultOf("squarf;a;", 1, 0);
            faultOf("a;squar;", 1, 2);
            faultOf("a;hexx;", 1, 2);
            faultOf("abcdabcd;", 0, NONE);
            faultOf("abcdabcda;", 1, 0);
            faultOf("a;aaaaaaaaa;", 1, 2);
            faultOf("a".repeat(200), 1, 0);
            faultOf("abz?", 1, 0);
        });
        edge("or a byte that begins none", () -> {
            faultOf("1;", 1, 0);
            faultOf("a1;", 1, 1);
            faultOf("a;\u00e9", 1, 2);
            faultOf("a;\u00ff", 1, 2);
            faultOf("a;\u00e1", 1, 2);
        });
        edge("or the end, if more must come (there is no ROW)", () -> {
            faultOf("", 1, 0);
            faultOf(" ", 1, 1);
            faultOf("hex;", 1, 4);
            faultOf("hex", 1, 3);
            faultOf("a;b", 1, 3);
            faultOf("a;hex", 1, 5);
            faultOf("a;b \n", 1, 5);
        });
    }

    private static void faultsTwoAndThree() {
        part("Terms 3");
        edge("If there is none, the first by place:", () -> {
            faultOf("a;bb;?", 1, 5);
            faultOf("a;bb;cc", 1, 7);
            faultOf("a;b;c;d;a;b;c;d;a;x;", 1, 18);
            faultOf("a;b;bb;ccc;", 2, 4);
            faultOf("a;bb;c;d;a;b;c;d;a;", 2, 2);
            faultOf("a;b;c;d;a;b;c;d;a;bb;", 3, 16);
        });
        edge("2 a ROW that has not as many letters as the first one (at it)", () -> {
            faultOf("ab;a;", 2, 3);
            faultOf("ab;abc;", 2, 3);
            faultOf("ab; \nabc;", 2, 5);
            faultOf("ab;cd;hex;a;cd;", 2, 10);
            faultOf("a;b;c;d;a;b;c;dd;", 2, 14);
        });
        edge("3 a 9th ROW (at it; ahead of 2)", () -> {
            faultOf("a;b;c;d;a;b;c;d;hex; a;", 3, 21);
            faultOf("a;b;c;d;a;b;c;d;aa;", 3, 16);
            faultOf("a;b;c;d;a;b;c;d;a;b;c;d;", 3, 16);
        });
    }

    private static void acts() {
        part("Terms 3");
        edge("ACTS that can be UNDONE, the latest 8", () -> {
            OrnamentDesk desk = new OrnamentDesk();
            for (int k = 0; k < 16; k++) {
                desk.paint(k % 4, k / 4, 1);
                due("ACTS behind " + (k + 1), desk.count(12), Math.min(8, k + 1));
            }
            for (int k = 7; k >= 0; k--) {
                due("undo()", desk.undo(), k);
            }
            due("the 9th", desk.undo(), NONE);
            shows("the first 8 stay", desk, "bbbb;bbbb;aaaa;aaaa;");
        });
        edge("paint(), shift(), turn(), dye(), net(), make(), mend(), reduce(), that were not refused.", () -> {
            OrnamentDesk desk = desk("abcb;dacd;aacb;bbdb;");
            String first = show(desk);
            yes("paint()", desk.paint(0, 0, 3));
            yes("shift()", desk.shift(1, 0));
            yes("turn()", desk.turn(1));
            yes("dye()", desk.dye(0, 3));
            due("mend()", desk.mend(1) > 0 ? 1 : 0, 1);
            yes("net()", desk.net(true));
            due("make()", desk.make(10, 4, 1, 1), 6);
            due("reduce()", desk.reduce(), 1);
            due("ACTS", desk.count(12), 8);
            for (int k = 0; k < 8; k++) {
                desk.undo();
            }
            shows("all UNDONE", desk, first);
        });
        edge("read() without a FAULT, again() leave none.", () -> {
            OrnamentDesk desk = inState(1);
            due("ACTS", desk.count(12), 8);
            due("read()", desk.read(), 2);
            due("ACTS behind read()", desk.count(12), 0);
            due("undo() behind read()", desk.undo(), NONE);
            desk.paint(0, 0, 2);
            due("an ACT behind it", desk.undo(), 0);
            desk = inState(1);
            yes("again()", desk.again(2));
            due("ACTS behind again()", desk.count(12), 0);
            due("undo() behind again()", desk.undo(), NONE);
            desk = inState(2);
            due("read() with a FAULT", desk.read(), NONE);
            due("ACTS behind it", desk.count(12), 3);
        });
    }

    private static void nothingChanged() {
        part("Terms 3");
        edge("Questions change nothing.", () -> {
            changesNothing("fault()", d -> { d.fault(true); d.fault(false); });
            changesNothing("count()", d -> { for (int what = -1; what < 26; what++) { d.count(what); } });
            changesNothing("cell()", d -> d.cell(-7, 12));
            changesNothing("step()", d -> { d.step(false, 0); d.step(true, 2); });
            changesNothing("shifts()", d -> { for (int t = -1; t < 13; t++) { d.shifts(t, NONE, 0); d.shifts(t, 0, 1); } });
            changesNothing("flip()", d -> { for (int t = -1; t < 13; t++) { d.flip(t); } });
            changesNothing("centre()", d -> { for (int m = 0; m < 8; m++) { d.centre(m, NONE, 0); d.centre(m, 1, 1); } });
            changesNothing("kind()", d -> d.kind(5, -5));
            changesNothing("strip()", d -> { for (int what = -1; what < 6; what++) { d.strip(what); } });
            changesNothing("coloured()", d -> { for (int t = -1; t < 13; t++) { d.coloured(t, true); d.coloured(t, false); } });
            changesNothing("like()", d -> { for (int k = -1; k < 4; k++) { d.like(k); } });
            changesNothing("flaws()", d -> { for (int cls = -1; cls < 18; cls++) { d.flaws(cls); } });
            changesNothing("orbit()", d -> { for (int cls = -1; cls < 18; cls++) { d.orbit(cls, 1, 1, cls % 2 == 0); } });
            changesNothing("nearest()", d -> d.nearest(3));
            changesNothing("painted()", d -> { for (int c = -1; c < 5; c++) { d.painted(1, 1, c); } });
            changesNothing("better()", d -> d.better());
            // Nothing of a tile that was asked about stays in the answers about the next one.
            OrnamentDesk desk = new OrnamentDesk();
            for (String one : OF_CLASS) {
                for (String other : OF_CLASS) {
                    for (String text : new String[] {one, other}) {
                        say(desk, text);
                        desk.read();
                        answersOf(desk);
                    }
                    tells("questions of " + other + " behind " + one, answersOf(desk), answersOf(desk(other)));
                    desk = new OrnamentDesk();
                }
            }
        });
        edge("Refused calls change nothing, unless it is said.", () -> {
            changesNothing("paint()", d -> { d.paint(9, 0, 1); d.paint(0, 0, d.cell(0, 0)); d.paint(0, 0, 4); });
            changesNothing("shift()", d -> { d.shift(101, 0); d.shift(1, -101); d.shift(d.count(0), -d.count(1)); });
            changesNothing("turn()", d -> { d.turn(-1); d.turn(12); d.turn(0); });
            changesNothing("dye()", d -> { d.dye(1, 4); d.dye(-1, 1); d.dye(2, 2); });
            changesNothing("net()", d -> d.net(d.count(2) == 1));
            changesNothing("make()", d -> { d.make(17, 3, 2, 1); d.make(3, 3, 2, 1); d.make(0, 9, 2, 1); d.make(0, 3, 5, 1); });
            changesNothing("mend()", d -> { d.mend(17); d.mend(-1); d.mend(d.count(2) == 1 ? 0 : 12); });
            changesNothing("image()", d -> { d.image(3); d.image(-1); });
            changesNothing("again()", d -> { d.again(1); d.again(3); d.again(-1); });
            OrnamentDesk desk = desk("abc;dda;");
            due("reduce()", desk.reduce(), NONE);
            due("undo()", desk.undo(), NONE);
            no("turn() of 3 by 2", desk.turn(2));
            tells("reduce(), undo(), turn()", allOf(desk), allOf(desk("abc;dda;")));
        });
    }

    private static void constants() {
        part("The constants");
        edge("`NONE = -1`: There is none.", () -> due("NONE", OrnamentDesk.NONE, -1));
    }
}
