import java.nio.file.Files;
import java.nio.file.Path;
import java.util.ArrayList;
import java.util.List;

/**
 * What the tests of boundaries share: sentences of the document, texts put on the tape, and a look
 * at all that can be seen of an object, so that a call which does nothing can be told from one
 * that does something. No object is asked more than 512 calls.
 */
final class Kit {
    static final int NONE = -1;
    /** Three segments: a flat one, one above it and one below it; a weighs most, then b, then c. */
    static final String THREE = "seg a at 0 10 to 20 10;seg b at 5 20 to 15 30;"
            + "seg c at 5 5 to 10 0;weighs 9-number;slots 2;";
    /** Eight flat segments, one above the other, over all of the map. */
    static final String EIGHT = "seg a at 0 1 to 60 1;seg b at 0 2 to 60 2;seg c at 0 3 to 60 3;"
            + "seg d at 0 4 to 60 4;seg e at 0 5 to 60 5;seg f at 0 6 to 60 6;seg g at 0 7 to 60 7;"
            + "seg h at 0 8 to 60 8;";

    private static final int VIEWS = 12;
    private static final int NODES_A_VIEW = 30;
    private static String document = null;
    private static String sentence = "";
    private static int sentences = 0;
    private static int checks = 0;
    private static int wrong = 0;

    private Kit() {
    }

    interface Maker {
        StampMap make();
    }

    interface Call {
        int of(StampMap x);
    }

    // ---- sentences and answers ----

    /** What is checked from here on is said by these words of the document. */
    static void says(String words) {
        endSentence();
        sentence = words;
        sentences++;
        if (!document().contains(squeeze(words))) {
            fail("the document does not say so");
        }
    }

    private static void endSentence() {
        if (sentences > 0 && checks == 0) {
            fail("nothing was checked");
        }
        checks = 0;
    }

    private static String document() {
        if (document == null) {
            try {
                document = squeeze(Files.readString(Path.of("../shared/DOC.md")));
            } catch (java.io.IOException e) {
                throw new IllegalStateException("no document", e);
            }
        }
        return document;
    }

    private static String squeeze(String text) {
        return text.replace("`", "").replaceAll("\\s+", " ");
    }

    static void due(String call, long got, long want) {
        checks++;
        if (got != want) {
            fail(call + " answered " + got + ", due is " + want);
        }
    }

    static void due(String call, boolean got, boolean want) {
        due(call, got ? 1 : 0, want ? 1 : 0);
    }

    /** What lies there, and no more. */
    static void dueLying(String call, StampMap x, int... want) {
        due("about(12) behind " + call, x.about(12), want.length);
        due("lies(-1) behind " + call, x.lies(-1), -2);
        for (int i = 0; i < want.length; i++) {
            due("lies(" + i + ") behind " + call, x.lies(i), want[i]);
        }
        due("lies(" + want.length + ") behind " + call, x.lies(want.length), -2);
    }

    private static void fail(String why) {
        wrong++;
        if (wrong <= 40) {
            System.out.println("\"" + sentence + "\": " + why);
        }
    }

    static void tell(String test) {
        endSentence();
        String all = sentences + " sentences of " + test;
        System.out.println(wrong == 0 ? all + " hold" : all + ": " + wrong + " answers are not as due");
        if (wrong != 0) {
            System.exit(1);
        }
        sentences = 0;
    }

    // ---- texts ----

    static void put(StampMap x, String text) {
        for (int at = 0; at < text.length(); at += 20) {
            int[] n = new int[5];
            for (int i = 0; i < 20; i++) {
                int sign = at + i < text.length() ? text.charAt(at + i) : 0;
                n[i / 4] |= sign << (24 - 8 * (i % 4));
            }
            x.feed(n[0], n[1], n[2], n[3], n[4]);
        }
        x.end(text.length());
    }

    static StampMap told(String text) {
        StampMap x = new StampMap();
        put(x, text);
        if (x.map() == NONE) {
            fail("no map: " + text);
        }
        return x;
    }

    static StampMap swept(String text, int times) {
        StampMap x = told(text);
        for (int i = 0; i < times; i++) {
            x.sweep();
        }
        return x;
    }

    /**
     * Something of all: versions behind a cut and a raise, two acts to be done again, a box that is
     * filled and one that is not, something seen and untold at three times, numbers that lie there,
     * and the fault 4 at 6 of the latest text.
     */
    static StampMap rich(String tape) {
        StampMap x = told(THREE);
        x.later(5);
        x.seen(0, true);
        x.sweep();
        x.image(0);
        x.sweep();
        x.cut(1);
        x.image(2);
        x.raise(1);
        x.sweep();
        x.undo();
        x.undo();
        x.later(3);
        x.seen(1, false);
        x.untell(0);
        x.later(2);
        put(x, "slots 9;");
        x.map();
        x.shape(2);
        put(x, tape);
        return x;
    }

    static StampMap rich() {
        return rich("slots 4;seg a");
    }

    static void faulty(String text, int fault, int place) {
        StampMap x = new StampMap();
        put(x, text);
        due("map() of " + text, x.map(), NONE);
        due("fault(0) of " + text, x.fault(0), fault);
        due("fault(1) of " + text, x.fault(1), place);
    }

    static void sound(String text, int segments, int units) {
        StampMap x = new StampMap();
        put(x, text);
        due("map() of " + text, x.map(), segments);
        due("fault(0) of " + text, x.fault(0), 0);
        due("fault(1) of " + text, x.fault(1), NONE);
        due("about(11) of " + text, x.about(11), units);
    }

    static String times(String part, int many) {
        return part.repeat(many);
    }

    // ---- all that can be seen ----

    /** A call answers so, and nothing is done by it. */
    static void refused(String name, Maker maker, Call call, int answer) {
        refused(name, maker, maker, call, answer);
    }

    /** A call answers so, and what it is done to is as another object then. */
    static void refused(String name, Maker maker, Maker other, Call call, int answer) {
        due(name, call.of(maker.make()), answer);
        for (int view = 0; view < VIEWS; view++) {
            StampMap asked = maker.make();
            call.of(asked);
            List<String> got = look(asked, view);
            List<String> want = look(other.make(), view);
            checks++;
            if (!got.equals(want)) {
                fail(name + " did something: " + firstUnlike(got, want));
            }
        }
    }

    private static String firstUnlike(List<String> got, List<String> want) {
        for (int i = 0; i < Math.min(got.size(), want.size()); i++) {
            if (!got.get(i).equals(want.get(i))) {
                return got.get(i) + ", due is " + want.get(i);
            }
        }
        return got.size() + " answers, due are " + want.size();
    }

    private static List<String> look(StampMap x, int view) {
        List<String> seen = new ArrayList<>();
        switch (view) {
            case 0:
                lookAtAll(x, seen);
                break;
            case 1:
                lookAtSums(x, seen);
                break;
            case 2:
                lookAtVersions(x, seen);
                break;
            case 3: case 4: case 5:
                lookAtNodes(x, seen, (view - 3) * NODES_A_VIEW);
                break;
            case 6:
                lookAtSegments(x, seen);
                break;
            case 7:
                lookAtActs(x, seen);
                break;
            case 8:
                lookAtBoxes(x, seen);
                break;
            case 9:
                lookAtSeen(x, seen);
                break;
            case 10:
                lookAtTape(x, seen);
                break;
            default:
                lookAtPoints(x, seen);
        }
        return seen;
    }

    private static void note(List<String> seen, String call, int answer) {
        seen.add(call + " = " + answer);
    }

    private static void lookAtAll(StampMap x, List<String> seen) {
        for (int what = 0; what <= 12; what++) {
            note(seen, "about(" + what + ")", x.about(what));
        }
        note(seen, "fault(0)", x.fault(0));
        note(seen, "fault(1)", x.fault(1));
        for (int i = 0; i < 8; i++) {
            note(seen, "lies(" + i + ")", x.lies(i));
        }
    }

    private static void lookAtSums(StampMap x, List<String> seen) {
        int[] sums = {x.next(), x.events(), x.written(), x.dearest(), x.paid(), x.credit(), x.busiest(), x.widest(),
            x.highest(), x.trapezes(), x.largest(), x.hidden(0), x.hidden(1), x.hidden(2)};
        for (int i = 0; i < sums.length; i++) {
            note(seen, "sum " + i, sums[i]);
        }
        for (int n = 1; n <= 6; n++) {
            note(seen, "law(" + n + ")", x.law(n));
        }
        for (int k = -1; k < 8; k++) {
            note(seen, "copies(" + k + ")", x.copies(k));
            note(seen, "area(" + k + ")", x.area(k));
            note(seen, "stays(" + k + ")", x.stays(k));
        }
    }

    private static void lookAtVersions(StampMap x, List<String> seen) {
        for (int stamp = 0; stamp <= 41; stamp++) {
            for (int what = 0; what < 5; what++) {
                note(seen, "version(" + stamp + ", " + what + ")", x.version(stamp, what));
            }
        }
    }

    private static void lookAtNodes(StampMap x, List<String> seen, int first) {
        for (int node = first; node < first + NODES_A_VIEW; node++) {
            for (int what = 0; what < 7; what++) {
                note(seen, "node(" + node + ", " + what + ")", x.node(node, what));
            }
            for (int what = 0; what < 3 && x.node(node, 4) > 0; what++) {
                note(seen, "change(" + node + ", 0, " + what + ")", x.change(node, 0, what));
            }
        }
    }

    private static void lookAtSegments(StampMap x, List<String> seen) {
        for (int k = 0; k < 9; k++) {
            for (int what = 0; what < 7; what++) {
                note(seen, "segment(" + k + ", " + what + ")", x.segment(k, what));
            }
            note(seen, "weight(" + k + ")", x.weight(k));
            note(seen, "sight(" + k + ", 0)", x.sight(k, 0));
            note(seen, "sight(" + k + ", 1)", x.sight(k, 1));
        }
    }

    private static void lookAtActs(StampMap x, List<String> seen) {
        for (int i = 0; i < 41 && x.redo(); i++) {
            note(seen, "redo " + i, x.about(3) + 1000 * x.about(4));
        }
        for (int i = 0; i < 41 && x.undo(); i++) {
            note(seen, "undo " + i, x.about(3) + 1000 * x.about(4));
        }
        for (int i = 0; i < 41 && x.redo(); i++) {
            note(seen, "redo again " + i, x.about(3) + 1000 * x.about(4));
        }
    }

    private static void lookAtBoxes(StampMap x, List<String> seen) {
        for (int box = 0; box < 3; box++) {
            note(seen, "back(" + box + ")", x.back(box));
            for (int what = 1; what < 8; what++) {
                note(seen, "about(" + what + ")", x.about(what));
            }
            for (int k = 0; k < 8; k++) {
                note(seen, "segment(" + k + ", 5)", x.segment(k, 5));
            }
            note(seen, "next()", x.next());
        }
    }

    private static void lookAtSeen(StampMap x, List<String> seen) {
        int time = x.about(9);
        for (int k = Math.max(time - 20, 0); k <= time; k++) {
            note(seen, "fits(12, " + k + ")", x.fits(12, k));
            note(seen, "sure(25, 0, " + k + ")", x.sure(25, 0, k));
            note(seen, "ask(3, 0, " + k + ")", x.ask(3, 0, k));
        }
        note(seen, "seen(-1, false)", x.seen(-1, false));
        for (int i = 0; i < 31; i++) {
            note(seen, "untell(" + i + ")", x.untell(i) ? 1 : 0);
        }
        note(seen, "later(1)", x.later(1));
    }

    private static void lookAtTape(StampMap x, List<String> seen) {
        note(seen, "map()", x.map());
        lookAtAll(x, seen);
        lookAtSegments(x, seen);
    }

    private static void lookAtPoints(StampMap x, List<String> seen) {
        for (int across = 0; across <= 60; across += 5) {
            for (int up = 0; up < 40; up += 7) {
                note(seen, "below(" + across + ", " + up + ")", x.below(across, up));
                note(seen, "crossed(" + across + ", " + up + ")", x.crossed(across, up));
            }
        }
    }
}
