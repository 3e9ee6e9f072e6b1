import java.io.IOException;
import java.nio.charset.StandardCharsets;
import java.nio.file.Files;
import java.nio.file.Path;
import java.util.function.Consumer;

/** What the tests by hand share: answers that are looked at, texts that are told, all that a desk can tell. */
abstract class Checks {
    static final int NONE = -1;
    static final int[] FAR = {Integer.MIN_VALUE, Integer.MIN_VALUE + 1, -1000, 1000, Integer.MAX_VALUE};
    static final String AT_FIRST = "aaaa;aaaa;aaaa;aaaa;";

    private static final String DOCUMENT = document();

    private static int wrong = 0;
    private static int checks = 0;
    private static int sentences = 0;
    private static String heading = "";
    private static String part = "";

    static void promise(int number) {
        part("Promise " + number);
    }

    static void part(String name) {
        heading = name;
        part = name;
    }

    /** A sentence of the document, word for word, that names an edge, and the test that is its own. */
    static void edge(String sentence, Runnable test) {
        sentences++;
        part = heading + ", \"" + sentence + "\"";
        if (!DOCUMENT.isEmpty() && !DOCUMENT.contains(sentence)) {
            System.out.println("the document has no such words any more: " + part);
        }
        test.run();
        part = heading;
    }

    private static String document() {
        try {
            return Files.readString(Path.of("../shared/DOC.md"));
        } catch (IOException none) {
            return "";
        }
    }

    static void end() {
        String edges = sentences == 0 ? "" : sentences + " edges, ";
        System.out.println(edges + checks + " answers looked at, " + wrong + " not as due");
        if (wrong != 0) {
            System.exit(1);
        }
    }

    static void due(String what, long got, long want) {
        checks++;
        if (got != want) {
            wrong++;
            System.out.println(part + ": " + what + " answered " + got + ", due is " + want);
        }
    }

    static void yes(String what, boolean got) {
        due(what, got ? 1 : 0, 1);
    }

    static void no(String what, boolean got) {
        due(what, got ? 1 : 0, 0);
    }

    static void tells(String what, String got, String want) {
        checks++;
        if (!got.equals(want)) {
            wrong++;
            System.out.println(part + ": " + what + " left " + got + ", due is " + want);
        }
    }

    static void shows(String what, OrnamentDesk desk, String want) {
        tells(what, show(desk), want);
    }

    static long eight(String text) {
        byte[] bytes = text.getBytes(StandardCharsets.ISO_8859_1);
        long all = 0;
        for (int k = 0; k < 8; k++) {
            all = all << 8 | (k < bytes.length ? bytes[k] & 255 : 0);
        }
        return all;
    }

    static void say(OrnamentDesk desk, String text) {
        for (int at = 0; at < text.length(); at += 8) {
            desk.tell(eight(text.substring(at, Math.min(text.length(), at + 8))));
        }
    }

    static OrnamentDesk desk(String text) {
        OrnamentDesk desk = new OrnamentDesk();
        say(desk, text);
        if (desk.read() < 1) {
            due("read() of " + text, NONE, 1);
        }
        return desk;
    }

    /** The tile as a text, by cell() and count() alone. */
    static String show(OrnamentDesk desk) {
        StringBuilder all = new StringBuilder(desk.count(2) == 1 ? "hex;" : "");
        for (int y = 0; y < desk.count(1); y++) {
            for (int x = 0; x < desk.count(0); x++) {
                all.append((char) ('a' + desk.cell(x, y)));
            }
            all.append(';');
        }
        return all.toString();
    }

    /** What a desk tells of its tile: all questions that need no image, no THE TEXT and no past. */
    static String answersOf(OrnamentDesk desk) {
        StringBuilder all = new StringBuilder(show(desk));
        for (int what = 0; what < 12; what++) {
            all.append(' ').append(desk.count(what));
        }
        all.append(" steps");
        for (int what = 0; what < 3; what++) {
            all.append(' ').append(desk.step(false, what)).append(' ').append(desk.step(true, what));
        }
        all.append(" turnings");
        for (int turning = 0; turning < 12; turning++) {
            all.append(' ').append(desk.shifts(turning, NONE, 0)).append(' ').append(desk.shifts(turning, 0, 0));
            all.append(' ').append(desk.flip(turning)).append(' ').append(desk.coloured(turning, false));
        }
        all.append(" centres");
        for (int m = 1; m <= 6; m++) {
            all.append(' ').append(desk.centre(m, NONE, 0)).append(' ').append(desk.centre(m, 1, 0));
        }
        all.append(" strip");
        for (int what = 0; what < 5; what++) {
            all.append(' ').append(desk.strip(what));
        }
        all.append(" classes");
        for (int cls = 0; cls < 17; cls++) {
            all.append(' ').append(desk.flaws(cls)).append(' ').append(desk.orbit(cls, 0, 0, false));
        }
        all.append(" kind ").append(desk.kind(-1, 1)).append(" nearest ").append(desk.nearest(2));
        all.append(" painted ").append(desk.painted(0, 0, 3)).append(' ').append(desk.painted(0, 0, 1));
        return all.append(" better ").append(desk.better()).toString();
    }

    /** All that a desk can tell of what it holds; its past, THE TEXT and its tile are used up by it. */
    static String allOf(OrnamentDesk desk) {
        StringBuilder all = new StringBuilder("now " + pageOf(desk));
        for (int k = 0; k < 3; k++) {
            all.append(" like ").append(desk.like(k));
        }
        all.append(" acts ").append(desk.count(12));
        for (int left = desk.undo(); left != NONE; left = desk.undo()) {
            all.append(" undone ").append(left).append(' ').append(show(desk));
        }
        all.append(" text ").append(desk.read()).append(' ').append(pageOf(desk));
        for (int k = 0; k < 3; k++) {
            boolean kept = desk.again(k);
            all.append(" kept ").append(kept).append(' ').append(pageOf(desk));
            all.append(" text ").append(desk.read()).append(' ').append(pageOf(desk));
        }
        return all.toString();
    }

    private static String pageOf(OrnamentDesk desk) {
        return show(desk) + " " + desk.fault(false) + " at " + desk.fault(true) + ", " + desk.count(13) + " bytes";
    }

    /** A desk in the k-th of some unlike states; a new one each time. */
    static OrnamentDesk inState(int k) {
        OrnamentDesk desk = new OrnamentDesk();
        if (k == 0) {
            return desk;
        }
        say(desk, k == 1 ? "hex;abcb;dacd;aacb;bbdb;" : "abc;dda;");
        desk.read();
        desk.image(2);
        say(desk, "aaa;bb;");
        desk.read();
        say(desk, k == 1 ? "hex;ab;" : "ab;?");
        desk.image(0);
        for (int act = 0; act < 3 + 7 * (2 - k); act++) {
            desk.paint(act % 3, act % 2, (desk.cell(act % 3, act % 2) + 1) % 4);
        }
        return desk;
    }

    static final int STATES = 3;

    /** The call leaves all as it is, in each of the states. */
    static void changesNothing(String what, Consumer<OrnamentDesk> call) {
        for (int k = 0; k < STATES; k++) {
            OrnamentDesk asked = inState(k);
            call.accept(asked);
            tells(what + " in state " + k, allOf(asked), allOf(inState(k)));
        }
    }
}
