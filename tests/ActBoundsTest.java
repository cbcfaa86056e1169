/**
 * The document from "==== 2." on, with promises 6 to 19, 27 to 38 and 53 to 55: segments, versions,
 * acts, nodes and boxes; each sentence that names a boundary, on both of its sides.
 */
public final class ActBoundsTest {
    private static final int[] NO_SEGMENTS = {-1, -2, 3, 4, 8, 31, 32, 64, Integer.MIN_VALUE, Integer.MAX_VALUE};
    private static final int[] FAR = {-1, -100, 100, Integer.MIN_VALUE, Integer.MAX_VALUE};

    public static void main(String[] args) {
        over();
        higherUp();
        bothBeginThere();
        higherRefused();
        events();
        weightNames();
        binding();
        luck();
        wrapping();
        byZero();
        truth();
        weightOfNone();
        stampZero();
        rootIsHeaviest();
        subtrees();
        sweepInAndOut();
        sweepRefused();
        cutPlace();
        cutRefused();
        raisePlace();
        raiseRefused();
        fortyVersions();
        fortieth();
        nodeNumbers();
        madeAnew();
        nothingChanges();
        freeSlots();
        twoAtOnce();
        copied();
        manyNodes();
        read();
        readRefused();
        undo();
        undoLeavesNothing();
        undoSlots();
        undoOfNone();
        redo();
        redoOfNone();
        fortyActs();
        segment();
        segmentRefused();
        version();
        versionRefused();
        node();
        nodeRefused();
        change();
        changeRefused();
        row();
        shape();
        unlike();
        shared();
        written();
        copies();
        dearest();
        paid();
        credit();
        law();
        lawRefused();
        busiest();
        widest();
        highest();
        stays();
        image();
        imageRefused();
        back();
        backToOther();
        backRefused();
        about();
        aboutAnother();
        Kit.tell("segments, versions, nodes");
    }

    private static StampMap three() {
        return Kit.swept(Kit.THREE, 3);
    }

    // ---- segments ----

    private static void over() {
        Kit.says("A SEGMENT is OVER a place across from its left end on, its right end not.");
        StampMap x = Kit.told("seg a at 0 0 to 60 0;seg b at 10 5 to 20 9;");
        int[] places = {9, 10, 11, 19, 20, 21};
        for (int place : places) {
            boolean isOver = place >= 10 && place < 20;
            Kit.due("higher(1, 0, " + place + ")", x.higher(1, 0, place), isOver ? 1 : -1);
            Kit.due("higher(0, 1, " + place + ")", x.higher(0, 1, place), isOver ? 0 : -1);
        }
        x = Kit.told("seg a at 0 0 to 60 0;seg b at 0 5 to 60 9;");
        Kit.due("higher(1, 0, 0)", x.higher(1, 0, 0), 1);
        Kit.due("higher(1, 0, 59)", x.higher(1, 0, 59), 1);
        Kit.due("higher(1, 0, 60)", x.higher(1, 0, 60), -1);
        Kit.due("higher(1, 0, -1)", x.higher(1, 0, -1), -1);
    }

    private static void higherUp() {
        Kit.says("Of two that are over one place that is HIGHER which is farther up there");
        // a begins below b's end, and is above b all along; c lies a hair below a where it begins.
        StampMap x = Kit.told("seg a at 0 1 to 60 2;seg b at 0 0 to 60 1;seg c at 30 1 to 59 1;");
        Kit.due("higher(0, 1, 0)", x.higher(0, 1, 0), 1);
        Kit.due("higher(0, 1, 59)", x.higher(0, 1, 59), 1);
        Kit.due("higher(1, 0, 59)", x.higher(1, 0, 59), 0);
        Kit.due("higher(0, 2, 30)", x.higher(0, 2, 30), 1);
        Kit.due("higher(2, 1, 30)", x.higher(2, 1, 30), 1);
        Kit.due("higher(1, 2, 58)", x.higher(1, 2, 58), 0);
        Kit.due("higher(1, 2, 59)", x.higher(1, 2, 59), -1);
    }

    private static void bothBeginThere() {
        Kit.says("if both begin there at one point, that which rises more steeply");
        // Slopes 1, 4/5, 5/6, 0, -1: the rise alone, or the far end alone, would tell otherwise.
        StampMap x = Kit.told("seg a at 0 10 to 20 30;seg b at 0 10 to 5 14;seg c at 0 10 to 60 60;"
                + "seg d at 0 10 to 60 10;seg e at 0 10 to 10 0;");
        int[] fromTop = {0, 2, 1, 3, 4};
        for (int i = 0; i < 5; i++) {
            for (int k = 0; k < 5; k++) {
                int want = i == k ? -1 : i < k ? 1 : 0;
                Kit.due("higher(" + fromTop[i] + ", " + fromTop[k] + ", 0)", x.higher(fromTop[i], fromTop[k], 0), want);
            }
        }
        x.sweep();
        Kit.due("row(1)", x.row(1), 5);
        Kit.dueLying("row(1)", x, 4, 3, 1, 2, 0);
        // Both end at one point: that is no place that they are over.
        x = Kit.told("seg a at 0 0 to 10 10;seg b at 0 20 to 10 10;seg c at 10 10 to 20 20;");
        Kit.due("higher(1, 0, 9)", x.higher(1, 0, 9), 1);
        Kit.due("higher(1, 0, 10)", x.higher(1, 0, 10), -1);
        Kit.due("higher(2, 0, 10)", x.higher(2, 0, 10), -1);
    }

    private static void higherRefused() {
        Kit.says("NONE if both are one, one is not over it, or can't be");
        Kit.due("higher(1, 0, 7)", Kit.rich().higher(1, 0, 7), 1);
        Kit.due("higher(0, 1, 7)", Kit.rich().higher(0, 1, 7), 0);
        Kit.refused("higher(0, 0, 7)", Kit::rich, x -> x.higher(0, 0, 7), -1);
        Kit.refused("higher(1, 0, 15)", Kit::rich, x -> x.higher(1, 0, 15), -1);
        Kit.refused("higher(0, 1, 4)", Kit::rich, x -> x.higher(0, 1, 4), -1);
        for (int no : NO_SEGMENTS) {
            Kit.due("higher(" + no + ", 0, 7)", Kit.rich().higher(no, 0, 7), -1);
            Kit.due("higher(0, " + no + ", 7)", Kit.rich().higher(0, no, 7), -1);
            Kit.due("higher(" + no + ", " + no + ", 7)", Kit.rich().higher(no, no, 7), -1);
        }
        for (int far : FAR) {
            Kit.due("higher(1, 0, " + far + ")", Kit.rich().higher(1, 0, far), -1);
        }
    }

    private static void events() {
        Kit.says("EVENTS are the places across at which some SEGMENT has an end, each once, from the left.");
        StampMap x = Kit.told("seg a at 30 0 to 60 0;seg b at 0 5 to 30 5;seg c at 0 9 to 60 9;seg d at 7 20 to 30 20;");
        int[] places = {0, 7, 30, 60};
        Kit.due("events()", x.events(), 4);
        for (int place : places) {
            Kit.due("next()", x.next(), place);
            x.sweep();
            Kit.due("about(2)", x.about(2), place);
        }
        Kit.due("next() behind all", x.next(), -1);
        Kit.due("events() behind all", x.events(), 4);
        // Eight segments with sixteen ends, and one end of all.
        StringBuilder text = new StringBuilder();
        for (int k = 0; k < 8; k++) {
            text.append("seg ").append((char) ('p' + k)).append(" at ").append(20 - k).append(' ').append(k)
                .append(" to ").append(30 + k).append(' ').append(k).append(';');
        }
        Kit.due("events() of sixteen", Kit.told(text.toString()).events(), 16);
        Kit.due("events() of one", Kit.told("seg a at 59 0 to 60 0;").events(), 2);
        Kit.due("events() of all alike", Kit.told(Kit.EIGHT).events(), 2);
        Kit.due("events() of none", new StampMap().events(), 0);
        Kit.due("next() of none", new StampMap().next(), -1);
    }

    private static int weight(String formula, int segment) {
        return Kit.told("seg a at 3 9 to 10 4;seg b at 4 20 to 14 26;weighs " + formula + ";").weight(segment);
    }

    private static void weightNames() {
        Kit.says("number (its number, 0 ..), across (of its left end), width (how much farther across the right one is), "
                + "rise (how much farther up, below 0: down)");
        Kit.due("number", weight("number", 0), 0);
        Kit.due("number", weight("number", 1), 1);
        Kit.due("across", weight("across", 0), 3);
        Kit.due("across", weight("across", 1), 4);
        Kit.due("width", weight("width", 0), 7);
        Kit.due("width", weight("width", 1), 10);
        Kit.due("rise", weight("rise", 0), -5);
        Kit.due("rise", weight("rise", 1), 6);
        Kit.due("rise of a flat one", Kit.told("seg a at 0 5 to 1 5;weighs rise;").weight(0), 0);
        Kit.due("width, the least", Kit.told("seg a at 0 5 to 1 5;weighs width;").weight(0), 1);
        Kit.due("width, the greatest", Kit.told("seg a at 0 5 to 60 5;weighs width;").weight(0), 60);
        Kit.due("rise, the least", Kit.told("seg a at 0 60 to 60 0;weighs rise;").weight(0), -60);
    }

    private static void binding() {
        Kit.says("e = both {or both}. both = one {and one}. one = not one | sum [(< | > | =) sum]. "
                + "sum = term {(+ | -) term}. term = unit {(* | / | %) unit}.");
        Kit.due("1 or 1 and 0", weight("1 or 1 and 0", 0), 1);
        Kit.due("0 and 0 or 1", weight("0 and 0 or 1", 0), 1);
        Kit.due("(1 or 1) and 0", weight("(1 or 1) and 0", 0), 0);
        Kit.due("not 0 or 1", weight("not 0 or 1", 0), 1);
        Kit.due("not 1 or 1", weight("not 1 or 1", 0), 1);
        Kit.due("not 0 and 0", weight("not 0 and 0", 0), 0);
        Kit.due("not (0 and 0)", weight("not (0 and 0)", 0), 1);
        Kit.due("not 1<0", weight("not 1<0", 0), 1);
        Kit.due("not 0=0", weight("not 0=0", 0), 0);
        Kit.due("1+1<1+2", weight("1+1<1+2", 0), 1);
        Kit.due("1<1+2", weight("1<1+2", 0), 1);
        Kit.due("5<4 and 1", weight("5<4 and 1", 0), 0);
        Kit.due("2+3*4", weight("2+3*4", 0), 14);
        Kit.due("2*3+4", weight("2*3+4", 0), 10);
        Kit.due("20-8/2", weight("20-8/2", 0), 16);
        Kit.due("20-7%4", weight("20-7%4", 0), 17);
        Kit.due("9-4-3", weight("9-4-3", 0), 2);
        Kit.due("9-4+3", weight("9-4+3", 0), 8);
        Kit.due("60/6/2", weight("60/6/2", 0), 5);
        Kit.due("60/6*2", weight("60/6*2", 0), 20);
        Kit.due("17%10*2", weight("17%10*2", 0), 14);
        Kit.due("17*2%10", weight("17*2%10", 0), 4);
        Kit.due("1=1", weight("1=1", 0), 1);
        Kit.due("(1=1)+(2=2)", weight("(1=1)+(2=2)", 0), 2);
    }

    private static void luck() {
        Kit.says("luck (of SEGMENT k the rest by 100 of what draw becomes, taken k + 1 times 137-fold and 71 more, modulo 1,000");
        int[] draws = {0, 1, 500, 998, 999};
        for (int draw : draws) {
            StampMap x = Kit.told(Kit.EIGHT + "draw " + draw + ";");
            StampMap y = Kit.told("draw " + draw + ";weighs luck*1;" + Kit.EIGHT);
            int became = draw;
            for (int k = 0; k < 8; k++) {
                became = (became * 137 + 71) % 1000;
                Kit.due("weight(" + k + "), weighs not told", x.weight(k), became % 100);
                Kit.due("weight(" + k + ")", y.weight(k), became % 100);
            }
        }
    }

    private static void wrapping() {
        Kit.says("ints, wrapping; / cut, % its rest");
        Kit.due("greatest + 1", weight("2048*1024*1024-1+1", 0), Integer.MIN_VALUE);
        Kit.due("greatest", weight("2048*1024*1024-1", 0), Integer.MAX_VALUE);
        Kit.due("least - 1", weight("0-2048*1024*1024-1", 0), Integer.MAX_VALUE);
        Kit.due("a product too great", weight("9999*9999*9999", 0), 9999 * 9999 * 9999);
        Kit.due("the least by -1", weight("2048*1024*1024/(0-1)", 0), Integer.MIN_VALUE);
        Kit.due("its rest", weight("2048*1024*1024%(0-1)", 0), 0);
        Kit.due("7/2", weight("7/2", 0), 3);
        Kit.due("-7/2", weight("(0-7)/2", 0), -3);
        Kit.due("7/-2", weight("7/(0-2)", 0), -3);
        Kit.due("-7/-2", weight("(0-7)/(0-2)", 0), 3);
        Kit.due("7%2", weight("7%2", 0), 1);
        Kit.due("-7%2", weight("(0-7)%2", 0), -1);
        Kit.due("7%-2", weight("7%(0-2)", 0), 1);
        Kit.due("6/7", weight("6/7", 0), 0);
        Kit.due("7/7", weight("7/7", 0), 1);
        // A weight beyond all others is the root, one that wraps is not.
        StampMap x = Kit.swept("seg a at 0 0 to 9 0;seg b at 0 1 to 9 1;weighs 2048*1024*1024-number;", 1);
        Kit.due("weight(0)", x.weight(0), Integer.MIN_VALUE);
        Kit.due("weight(1)", x.weight(1), Integer.MAX_VALUE);
        Kit.due("the root", x.node(x.version(1, 2), 0), 1);
    }

    private static void byZero() {
        Kit.says("both by 0: 0;");
        Kit.due("5/0", weight("5/0", 0), 0);
        Kit.due("5%0", weight("5%0", 0), 0);
        Kit.due("0/0", weight("0/0", 0), 0);
        Kit.due("0%0", weight("0%0", 0), 0);
        Kit.due("-5/0", weight("(0-5)/0", 0), 0);
        Kit.due("5/(1-1)+3", weight("5/(1-1)+3", 0), 3);
        Kit.due("5%(1-1)+3", weight("5%(1-1)+3", 0), 3);
        Kit.due("7/number of segment 0", weight("7/number", 0), 0);
        Kit.due("7/number of segment 1", weight("7/number", 1), 7);
        Kit.due("5/1", weight("5/1", 0), 5);
        Kit.due("5%1", weight("5%1", 0), 0);
    }

    private static void truth() {
        Kit.says("relations, and, or, not are 1 or 0, of what is not 0");
        int[] values = {-2, -1, 0, 1, 2, 9};
        for (int a : values) {
            String one = a < 0 ? "(0-" + -a + ")" : "" + a;
            Kit.due("not " + a, weight("not " + one, 0), a == 0 ? 1 : 0);
            Kit.due("not not " + a, weight("not not " + one, 0), a == 0 ? 0 : 1);
            for (int b : values) {
                String two = b < 0 ? "(0-" + -b + ")" : "" + b;
                Kit.due(a + " and " + b, weight(one + " and " + two, 0), a != 0 && b != 0 ? 1 : 0);
                Kit.due(a + " or " + b, weight(one + " or " + two, 0), a != 0 || b != 0 ? 1 : 0);
                Kit.due(a + " < " + b, weight(one + "<" + two, 0), a < b ? 1 : 0);
                Kit.due(a + " > " + b, weight(one + ">" + two, 0), a > b ? 1 : 0);
                Kit.due(a + " = " + b, weight(one + "=" + two, 0), a == b ? 1 : 0);
            }
        }
    }

    private static void weightOfNone() {
        Kit.says("WEIGHT; 0 if there is none such.");
        StampMap x = Kit.rich();
        Kit.due("weight(0)", x.weight(0), 9);
        Kit.due("weight(2)", x.weight(2), 7);
        for (int no : NO_SEGMENTS) {
            Kit.due("weight(" + no + ")", x.weight(no), 0);
        }
        Kit.refused("weight(3)", Kit::rich, y -> y.weight(3), 0);
        Kit.due("weight(0) of no map", new StampMap().weight(0), 0);
    }

    // ---- versions and trees ----

    private static void stampZero() {
        Kit.says("with a STAMP (0 at first: none is IN) and a place across (0 of STAMP 0)");
        String[] texts = {"", Kit.THREE, "seg a at 5 5 to 6 6;"};
        for (String text : texts) {
            StampMap x = Kit.told(text);
            int[] first = {0, 0, -1, 0, 0};
            for (int what = 0; what < 5; what++) {
                Kit.due("version(0, " + what + ")", x.version(0, what), first[what]);
            }
            Kit.due("about(1)", x.about(1), 0);
            Kit.due("about(2)", x.about(2), 0);
            Kit.due("version(1, 0)", x.version(1, 0), -2);
            x.sweep();
            for (int what = 0; what < 5; what++) {
                Kit.due("version(0, " + what + ") behind a sweep", x.version(0, what), first[what]);
            }
        }
    }

    private static int rootOf(String weighs) {
        StampMap x = Kit.swept(Kit.EIGHT + "weighs " + weighs + ";", 1);
        return x.node(x.version(1, 2), 0);
    }

    private static void rootIsHeaviest() {
        Kit.says("the ROOT is the heaviest (of like ones the least number)");
        Kit.due("all alike", rootOf("1"), 0);
        Kit.due("the last", rootOf("number"), 7);
        Kit.due("the first", rootOf("0-number"), 0);
        for (int k = 0; k < 8; k++) {
            Kit.due("one of " + k, rootOf("number=" + k), k);
            Kit.due("all from " + k + " on", rootOf("number+1>" + k), k);
            Kit.due("all but those below " + k, rootOf("not number<" + k), k);
        }
        // Likeness counts in each subtree, too, whoever is lower there.
        StampMap x = Kit.swept("seg a at 0 9 to 9 9;seg b at 0 1 to 9 1;seg c at 0 5 to 9 5;weighs 4;", 1);
        Kit.due("shape(1)", x.shape(1), 3);
        Kit.dueLying("shape(1)", x, 0, 1, 2);
    }

    private static void subtrees() {
        Kit.says("in its left subtree all that are lower, in its right one all that are HIGHER, by its place across");
        StampMap x = Kit.swept("seg a at 0 9 to 9 9;seg b at 0 1 to 9 1;seg c at 0 5 to 9 5;weighs number;", 1);
        Kit.due("shape(1)", x.shape(1), 2);
        Kit.dueLying("shape(1)", x, 2, 1, 0);
        int root = x.version(1, 2);
        Kit.due("left of the root", x.node(x.node(root, 2), 0), 1);
        Kit.due("right of the root", x.node(x.node(root, 3), 0), 0);
    }

    private static void sweepInAndOut() {
        Kit.says("a SWEEP, its place the next EVENT: those that end there are IN no more, those that begin there are IN");
        StampMap x = Kit.told("seg a at 5 0 to 10 0;seg b at 10 0 to 20 0;seg c at 5 9 to 20 8;");
        int[] in = {5, 6, 0};
        int[] places = {5, 10, 20};
        int[] many = {2, 2, 0};
        for (int i = 0; i < 3; i++) {
            Kit.due("sweep()", x.sweep(), many[i]);
            Kit.due("version(" + (i + 1) + ", 0)", x.version(i + 1, 0), places[i]);
            Kit.due("version(" + (i + 1) + ", 1)", x.version(i + 1, 1), in[i]);
        }
        // One that was cut does not come back by a sweep, neither at its end nor ahead of it.
        x = Kit.swept("seg a at 0 0 to 20 0;seg b at 5 5 to 30 5;seg c at 10 9 to 20 9;", 2);
        Kit.due("cut(0)", x.cut(0), 1);
        Kit.due("sweep() to 10", x.sweep(), 2);
        Kit.due("about(3)", x.about(3), 6);
        Kit.due("sweep() to 20", x.sweep(), 1);
        Kit.due("about(3)", x.about(3), 2);
        Kit.due("segment(0, 5)", x.segment(0, 5), 1);
    }

    private static void sweepRefused() {
        Kit.says("NONE, doing nothing, if there is no EVENT left, or behind 40 VERSIONS.");
        Kit.due("sweep() to the last EVENT", Kit.swept(Kit.THREE, 4).sweep(), 0);
        Kit.refused("sweep() behind the last EVENT", () -> {
            StampMap x = Kit.swept(Kit.THREE, 5);
            x.image(0);
            x.undo();
            x.redo();
            return x;
        }, StampMap::sweep, -1);
        Kit.refused("sweep() with one to be done again", () -> {
            StampMap x = Kit.swept("seg a at 0 0 to 1 1;", 2);
            x.image(1);
            x.undo();
            x.back(1);
            return x;
        }, StampMap::sweep, -1);
        Kit.refused("sweep() without SEGMENTS", StampMap::new, StampMap::sweep, -1);
    }

    private static void cutPlace() {
        Kit.says("a CUT, its place that of the VERSION ahead: one that is IN is not");
        StampMap x = Kit.swept(Kit.THREE, 2);
        Kit.due("cut(2)", x.cut(2), 2);
        Kit.due("version(3, 0)", x.version(3, 0), 5);
        Kit.due("version(3, 1)", x.version(3, 1), 3);
        Kit.due("cut(0)", x.cut(0), 1);
        Kit.due("cut(1), the last", x.cut(1), 0);
        Kit.due("version(5, 0)", x.version(5, 0), 5);
        Kit.due("version(5, 2)", x.version(5, 2), -1);
        Kit.due("next()", x.next(), 10);
    }

    private static void cutRefused() {
        Kit.says("A CUT: likewise; NONE, doing nothing, if it is not IN, there is none such, or behind 40 VERSIONS. (An ACT.)");
        Kit.due("cut(1) that is in", Kit.swept(Kit.THREE, 2).cut(1), 2);
        Kit.refused("cut(0) ahead of its begin", () -> Kit.told(Kit.THREE), x -> x.cut(0), -1);
        Kit.refused("cut(1) ahead of its begin", () -> Kit.swept(Kit.THREE, 1), x -> x.cut(1), -1);
        Kit.refused("cut(2) behind its end", Kit::rich, x -> {
            x.redo();
            x.redo();
            int answer = x.cut(2);
            x.undo();
            x.undo();
            return answer;
        }, -1);
        Kit.refused("cut(1) cut already", Kit::rich, x -> x.cut(1), -1);
        for (int no : NO_SEGMENTS) {
            Kit.due("cut(" + no + ")", Kit.rich().cut(no), -1);
        }
        Kit.refused("cut(3)", Kit::rich, x -> x.cut(3), -1);
        Kit.refused("cut(-1)", Kit::rich, x -> x.cut(-1), -1);
        // It is an ACT: what was undone is not to be done again behind it.
        StampMap x = Kit.rich();
        Kit.due("about(7)", x.about(7), 2);
        Kit.due("cut(0)", x.cut(0), 1);
        Kit.due("about(7) behind an ACT", x.about(7), 0);
        Kit.due("redo()", x.redo(), false);
    }

    private static void raisePlace() {
        Kit.says("a RAISE, its place likewise: one that was CUT and is over that place is IN again");
        StampMap x = Kit.swept(Kit.THREE, 2);
        x.cut(0);
        x.cut(2);
        Kit.due("raise(2) at its left end", x.raise(2), 2);
        Kit.due("version(5, 0)", x.version(5, 0), 5);
        x.cut(2);
        x.sweep();
        Kit.due("sweep() to the right end of 2: raise(2)", x.raise(2), -1);
        Kit.due("raise(0) in its midst", x.raise(0), 2);
        Kit.due("about(2)", x.about(2), 10);
        // b from 5 to 15: still over 10, not over 15.
        x.cut(1);
        Kit.due("raise(1) at 10", x.raise(1), 2);
        x.cut(1);
        x.sweep();
        Kit.due("raise(1) at 15", x.raise(1), -1);
        Kit.due("about(3)", x.about(3), 1);
    }

    private static void raiseRefused() {
        Kit.says("A RAISE: likewise; NONE, doing nothing, if it was not CUT, is not over the place, there is none such, "
                + "or behind 40 VERSIONS. (An ACT.)");
        Kit.due("raise(1) that was cut", Kit.rich().raise(1), 3);
        Kit.refused("raise(0) never cut", Kit::rich, x -> x.raise(0), -1);
        Kit.refused("raise(1) raised since", () -> {
            StampMap x = Kit.rich();
            x.raise(1);
            return x;
        }, x -> x.raise(1), -1);
        Kit.refused("raise(1) not begun", () -> Kit.swept(Kit.THREE, 1), x -> x.raise(1), -1);
        Kit.refused("raise(0) whose cut was undone", () -> {
            StampMap x = Kit.swept(Kit.THREE, 2);
            x.cut(0);
            x.undo();
            return x;
        }, x -> x.raise(0), -1);
        Kit.refused("raise(2) at its end", () -> {
            StampMap x = Kit.swept(Kit.THREE, 2);
            x.cut(2);
            x.sweep();
            return x;
        }, x -> x.raise(2), -1);
        for (int no : NO_SEGMENTS) {
            Kit.due("raise(" + no + ")", Kit.rich().raise(no), -1);
        }
        Kit.refused("raise(3)", Kit::rich, x -> x.raise(3), -1);
        Kit.refused("raise(-1)", Kit::rich, x -> x.raise(-1), -1);
        StampMap x = Kit.rich();
        x.raise(1);
        Kit.due("redo() behind a RAISE", x.redo(), false);
        Kit.due("about(6)", x.about(6), 4);
    }

    /** Behind so many acts: a sweep, then cuts and raises of a; b never begins ahead of 1. */
    private static StampMap acted(int acts) {
        StampMap x = Kit.swept("seg a at 0 0 to 10 0;seg b at 1 5 to 10 5;seg c at 0 9 to 9 9;", 1);
        x.image(0);
        for (int i = 1; i < acts; i++) {
            if (i % 2 == 1) {
                x.cut(0);
            } else {
                x.raise(0);
            }
        }
        return x;
    }

    private static void fortyVersions() {
        Kit.says("40 VERSIONS at most behind STAMP 0.");
        Kit.due("sweep() as the 40th", acted(39).sweep(), 3);
        Kit.due("cut() as the 40th", acted(39).cut(2), 1);
        StampMap x = acted(38);
        x.cut(2);
        Kit.due("raise() as the 40th", x.raise(0), 1);
        Kit.due("raise() as the 41st", x.raise(2), -1);
        x = acted(40);
        Kit.due("about(1)", x.about(1), 40);
        Kit.due("raise(0) is the 41st", x.raise(0), -1);
        Kit.refused("sweep() as the 41st", () -> acted(40), StampMap::sweep, -1);
        Kit.refused("cut(2) as the 41st", () -> acted(40), y -> y.cut(2), -1);
        Kit.refused("raise(0) as the 41st", () -> acted(40), y -> y.raise(0), -1);
        Kit.due("undo()", x.undo(), true);
        Kit.due("cut(2) as the 40th", x.cut(2), 1);
        Kit.due("cut(0) as the 41st", x.cut(0), -1);
        // Behind back() there is as much room as the versions kept leave.
        Kit.due("back(0)", x.back(0), 1);
        for (int i = 2; i <= 40; i++) {
            Kit.due("act " + i, (i % 2 == 0 ? x.cut(0) : x.raise(0)) >= 0, true);
        }
        Kit.due("cut(2) as the 41st", x.cut(2), -1);
        Kit.due("about(1)", x.about(1), 40);
        Kit.due("about(6)", x.about(6), 39);
    }

    private static void fortieth() {
        Kit.says("40 VERSIONS at most behind STAMP 0.");
        StampMap x = acted(39);
        x.sweep();
        dueFortieth(x, "a sweep", 1, 7, 2, 9);
        Kit.due("segment(0, 5)", x.segment(0, 5), 0);
        x = acted(39);
        x.cut(0);
        dueFortieth(x, "a cut", 0, 4, 1, 1);
        Kit.due("segment(0, 5)", x.segment(0, 5), 1);
        Kit.due("segment(2, 5)", x.segment(2, 5), 0);
        x = acted(38);
        x.cut(2);
        x.raise(0);
        dueFortieth(x, "a raise", 0, 1, 1, 1);
        Kit.due("segment(0, 5)", x.segment(0, 5), 0);
        Kit.due("segment(2, 5)", x.segment(2, 5), 1);
    }

    private static void dueFortieth(StampMap x, String act, int place, int in, int cost, int next) {
        for (int time = 0; time < 2; time++) {
            Kit.due("about(1) behind " + act, x.about(1), 40);
            Kit.due("version(40, 0) of " + act, x.version(40, 0), place);
            Kit.due("version(40, 1) of " + act, x.version(40, 1), in);
            Kit.due("version(40, 2) of " + act, x.version(40, 2), rootNow(x));
            Kit.due("version(40, 4) of " + act, x.version(40, 4), cost);
            Kit.due("next() behind " + act, x.next(), next);
            Kit.due("row(40) of " + act, x.row(40), Integer.bitCount(in));
            x.undo();
            Kit.due("version(40, 0), undone", x.version(40, 0), -2);
            x.redo();
        }
    }

    private static int rootNow(StampMap x) {
        for (int k = 0; k < x.about(0); k++) {
            int node = x.segment(k, 6);
            if (node >= 0 && x.node(node, 5) == -1) {
                return node;
            }
        }
        return -1;
    }

    // ---- nodes ----

    private static void nodeNumbers() {
        Kit.says("SEGMENT by SEGMENT of the new TREE, each behind its subtrees, left ahead of right");
        StampMap x = Kit.swept("seg a at 0 3 to 9 3;seg b at 0 1 to 9 1;seg c at 0 2 to 9 2;seg d at 0 5 to 9 5;"
                + "seg e at 0 4 to 9 4;weighs (number=0)*3+(number=1)*2+(number=4)*2;", 1);
        // a on top; left b with c on its right, right e with d on its right.
        int[] owners = {2, 1, 3, 4, 0};
        int[] lefts = {-1, -1, -1, -1, 1};
        int[] rights = {-1, 0, -1, 2, 3};
        for (int node = 0; node < 5; node++) {
            Kit.due("node(" + node + ", 0)", x.node(node, 0), owners[node]);
            Kit.due("node(" + node + ", 1)", x.node(node, 1), 1);
            Kit.due("node(" + node + ", 2)", x.node(node, 2), lefts[node]);
            Kit.due("node(" + node + ", 3)", x.node(node, 3), rights[node]);
        }
        Kit.due("node(5, 0)", x.node(5, 0), -2);
        Kit.due("version(1, 2)", x.version(1, 2), 4);
        Kit.due("version(1, 4)", x.version(1, 4), 5);
    }

    private static void madeAnew() {
        Kit.says("if it is not IN the VERSION ahead, a NODE is MADE for it, its CHILDREN those NODES that its CHILDREN have now");
        StampMap x = Kit.swept(Kit.THREE, 2);
        x.cut(0);
        x.raise(0);
        Kit.due("segment(0, 6)", x.segment(0, 6), 3);
        Kit.due("node(3, 2)", x.node(3, 2), 1);
        Kit.due("node(3, 3)", x.node(3, 3), 2);
        Kit.due("node(3, 1)", x.node(3, 1), 4);
        Kit.due("copies(0): it is not COPIED", x.copies(0), 0);
        Kit.due("node(0, 6)", x.node(0, 6), 0);
        // b took c when a was cut, and let it go again.
        Kit.due("node(2, 4)", x.node(2, 4), 2);
        Kit.due("change(2, 0, 2)", x.change(2, 0, 2), 1);
        Kit.due("change(2, 1, 2)", x.change(2, 1, 2), -1);
        Kit.due("version(4, 4)", x.version(4, 4), 2);
    }

    private static void nothingChanges() {
        Kit.says("of its sides those CHANGE of which the CHILD read there is not the NODE which its CHILD has now (or none); "
                + "none: nothing is done");
        StampMap x = Kit.swept("seg a at 0 10 to 60 10;seg b at 0 20 to 60 20;seg c at 0 30 to 60 30;seg d at 5 40 to 6 40;"
                + "weighs 9-number;slots 1;", 2);
        // d is c's child: c changes, b and a have the children that they had.
        Kit.due("version(2, 4)", x.version(2, 4), 2);
        Kit.due("node(2, 4) of a", x.node(x.segment(0, 6), 4), 0);
        Kit.due("node(1, 4) of b", x.node(x.segment(1, 6), 4), 0);
        Kit.due("node(0, 4) of c", x.node(x.segment(2, 6), 4), 1);
        // c is copied: of b, not of a, the child is another node now.
        x.sweep();
        Kit.due("version(3, 4)", x.version(3, 4), 2);
        Kit.due("copies(2)", x.copies(2), 1);
        Kit.due("of b", x.node(x.segment(1, 6), 4), 1);
        Kit.due("of a", x.node(x.segment(0, 6), 4), 0);
    }

    private static void freeSlots() {
        Kit.says("if there are free slots for these, they are written (left ahead of right); else a NODE is COPIED");
        for (int slots = 1; slots <= 6; slots++) {
            StampMap x = Kit.swept("seg a at 0 10 to 60 10;seg b at 0 20 to 60 20;weighs 9-number;slots " + slots + ";", 1);
            for (int acts = 1; acts <= slots + 1; acts++) {
                Kit.due("used ahead of act " + acts, x.node(1, 4), acts - 1);
                Kit.due("copies ahead of act " + acts, x.copies(-1), 0);
                if (acts % 2 == 1) {
                    x.cut(1);
                } else {
                    x.raise(1);
                }
            }
            Kit.due("used behind one more than " + slots, x.node(1, 4), slots);
            Kit.due("copies", x.copies(0), 1);
            Kit.due("written", x.written(), slots);
            int copy = x.segment(0, 6);
            Kit.due("another node", copy != 1, true);
            Kit.due("no slot of it is used", x.node(copy, 4), 0);
            Kit.due("its child now", x.node(copy, 3), x.segment(1, 6));
            Kit.due("made at", x.node(copy, 1), slots + 2);
            Kit.due("the root", x.version(slots + 2, 2), copy);
            Kit.due("the root ahead", x.version(slots + 1, 2), 1);
        }
    }

    private static void twoAtOnce() {
        Kit.says("if there are free slots for these, they are written (left ahead of right)");
        // b above and c below a begin and end at one time; d is cut ahead of it, one slot each.
        String text = "seg a at 0 30 to 60 30;seg b at 1 40 to 2 40;seg c at 1 20 to 2 20;seg d at 0 50 to 60 50;"
                + "weighs (number=0)*9+(number=3)*5;slots ";
        for (int slots = 1; slots <= 6; slots++) {
            for (int ahead = 1; ahead <= 5 && ahead <= slots; ahead += 2) {
                StampMap x = Kit.swept(text + slots + ";", 1);
                for (int i = 0; i < ahead; i++) {
                    if (i % 2 == 0) {
                        x.cut(3);
                    } else {
                        x.raise(3);
                    }
                }
                int node = x.segment(0, 6);
                Kit.due("slots used", x.node(node, 4), ahead);
                x.sweep();
                boolean fits = ahead + 2 <= slots;
                String story = ahead + " of " + slots + " used, two more";
                Kit.due(story, x.node(node, 4), fits ? ahead + 2 : ahead);
                Kit.due(story + ": copies", x.copies(0), fits ? 0 : 1);
                Kit.due(story + ": the left one first", x.change(node, ahead, 1), fits ? 0 : -2);
                Kit.due(story + ": its node", x.change(node, ahead, 2), fits ? x.segment(2, 6) : -2);
                Kit.due(story + ": the right one", x.change(node, ahead + 1, 1), fits ? 1 : -2);
                Kit.due(story + ": its node", x.change(node, ahead + 1, 2), fits ? x.segment(1, 6) : -2);
                Kit.due(story + ": the left child", x.read(x.segment(0, 6), 0, x.about(1)), x.segment(2, 6));
                Kit.due(story + ": the right child", x.read(x.segment(0, 6), 1, x.about(1)), x.segment(1, 6));
            }
        }
        // None used: two fit in two, not in one.
        for (int slots = 1; slots <= 2; slots++) {
            StampMap x = Kit.swept("seg a at 0 30 to 60 30;seg b at 1 40 to 2 40;seg c at 1 20 to 2 20;weighs 9-number;slots "
                    + slots + ";", 2);
            Kit.due("copies of two in " + slots, x.copies(0), 2 - slots);
            Kit.due("used", x.node(0, 4), slots == 2 ? 2 : 0);
        }
    }

    private static void copied() {
        Kit.says("a NODE is COPIED: MADE for it, with its CHILDREN now, no slot used, and it has that one from now on");
        StampMap x = three();
        Kit.due("segment(0, 6)", x.segment(0, 6), 3);
        int[] copy = {0, 3, -1, 2, 0, -1, 1};
        int[] old = {0, 1, -1, -1, 2, -1, 0};
        for (int what = 0; what < 7; what++) {
            Kit.due("node(3, " + what + ")", x.node(3, what), copy[what]);
            Kit.due("node(0, " + what + ")", x.node(0, what), old[what]);
        }
        Kit.due("what was is still read", x.read(0, 0, 2), 1);
        Kit.due("what was is still read", x.read(0, 1, 2), 2);
        x.cut(1);
        Kit.due("the copy changes from now on", x.node(3, 4), 1);
        Kit.due("the old one does not", x.node(0, 4), 2);
    }

    /** From its ROOT each of forty VERSIONS is read as it was, through a hundred and more NODES. */
    private static void manyNodes() {
        Kit.says("NODES hold the TREES of all VERSIONS");
        int[] most = {0, 0, 0, 0, 0, 0, 0};
        for (int slots = 1; slots <= 6; slots++) {
            for (int stamp = 0; stamp <= 40; stamp++) {
                StampMap x = zipped(slots);
                most[slots] = x.about(4);
                x.row(stamp);
                int[] row = new int[x.about(12)];
                for (int i = 0; i < row.length; i++) {
                    row[i] = x.lies(i);
                }
                int[] read = new int[9];
                int many = readTree(x, x.version(stamp, 2), stamp, read, 0);
                Kit.due("SEGMENTS read at " + stamp, many, row.length);
                for (int i = 0; i < row.length; i++) {
                    Kit.due("place " + i + " read at " + stamp, read[i], row[i]);
                }
                Kit.due("NODES made at " + stamp, x.about(4) > stamp, true);
            }
        }
        Kit.due("NODES with one slot", most[1], 123);
        Kit.due("fewer with more", most[1] > most[2] && most[2] > most[3] && most[3] > most[6], true);
    }

    /** Cut and raised again and again, the ROOT parts and joins two rows of NODES. */
    private static StampMap zipped(int slots) {
        StampMap x = Kit.swept("seg p at 0 4 to 60 4;seg q at 0 1 to 60 1;seg r at 0 8 to 60 8;seg s at 0 2 to 60 2;"
                + "seg t at 0 7 to 60 7;seg u at 0 3 to 60 3;seg v at 0 5 to 60 5;seg w at 0 6 to 60 6;"
                + "weighs 9-number;slots " + slots + ";", 1);
        int[] acts = {0, 7, 7};
        for (int i = 0; i < 39; i++) {
            int k = i < 3 ? acts[i] : 0;
            if (x.segment(k, 4) == 1) {
                x.cut(k);
            } else {
                x.raise(k);
            }
        }
        return x;
    }

    private static int readTree(StampMap x, int node, int stamp, int[] read, int many) {
        if (node < 0 || many > 7) {
            return many;
        }
        int behind = readTree(x, x.read(node, 0, stamp), stamp, read, many);
        read[Math.min(behind, 8)] = x.node(node, 0);
        return readTree(x, x.read(node, 1, stamp), stamp, read, behind + 1);
    }

    private static void read() {
        Kit.says("READ a side of a NODE at a STAMP: the last CHANGE of that side of that STAMP or an earlier one; "
                + "without one as it was MADE.");
        StampMap x = Kit.swept("seg a at 0 10 to 60 10;seg b at 0 20 to 60 20;seg c at 1 5 to 60 5;weighs 9-number;slots 6;", 1);
        int a = x.segment(0, 6);
        int first = x.segment(1, 6);
        x.cut(1);
        x.sweep();
        x.raise(1);
        int c = x.segment(2, 6);
        int second = x.segment(1, 6);
        Kit.due("used", x.node(a, 4), 3);
        int[] rights = {-2, first, -1, -1, second, -2};
        int[] lefts = {-2, -1, -1, c, c, -2};
        for (int stamp = 0; stamp <= 5; stamp++) {
            Kit.due("read(a, 1, " + stamp + ")", x.read(a, 1, stamp), rights[stamp]);
            Kit.due("read(a, 0, " + stamp + ")", x.read(a, 0, stamp), lefts[stamp]);
        }
        Kit.due("node(a, 3), as it was made", x.node(a, 3), first);
    }

    private static void readRefused() {
        Kit.says("READ a side of a NODE at a STAMP (not ahead of that at which it was MADE, of a VERSION): "
                + "the NODE, NONE: none; -2 if one can't be.");
        StampMap x = three();
        Kit.due("read(3, 0, 3)", x.read(3, 0, 3), -1);
        Kit.due("read(3, 1, 3)", x.read(3, 1, 3), 2);
        Kit.due("read(3, 1, 2), ahead of its begin", x.read(3, 1, 2), -2);
        Kit.due("read(0, 1, 1), its begin", x.read(0, 1, 1), -1);
        Kit.due("read(0, 1, 0)", x.read(0, 1, 0), -2);
        Kit.due("read(3, 1, 4), no version", x.read(3, 1, 4), -2);
        Kit.due("read(3, -1, 3)", x.read(3, -1, 3), -2);
        Kit.due("read(3, 2, 3)", x.read(3, 2, 3), -2);
        Kit.due("read(4, 0, 3)", x.read(4, 0, 3), -2);
        for (int far : FAR) {
            Kit.due("read(" + far + ", 0, 3)", x.read(far, 0, 3), -2);
            Kit.due("read(3, " + far + ", 3)", x.read(3, far, 3), -2);
            Kit.due("read(3, 0, " + far + ")", x.read(3, 0, far), -2);
        }
        Kit.refused("read(0, 2, 1)", Kit::rich, y -> y.read(0, 2, 1), -2);
    }

    // ---- undo and redo ----

    private static void undo() {
        Kit.says("UNDO takes back the latest ACT that was not (VERSION, NODES, slots, all)");
        Kit.refused("undo() and redo()", ActBoundsTest::three, x -> {
            x.undo();
            return x.redo() ? 1 : 0;
        }, 1);
        Kit.refused("undo() of all and redo() of all", () -> Kit.swept(Kit.THREE, 5), x -> {
            int many = 0;
            while (x.undo()) {
                many++;
            }
            while (x.redo()) {
                many++;
            }
            return many;
        }, 10);
        // What is done instead is as if what was taken back had never been.
        Kit.refused("undo() of a sweep that copied, then cut", ActBoundsTest::three, () -> {
            StampMap x = Kit.swept(Kit.THREE, 2);
            x.cut(0);
            return x;
        }, x -> {
            x.undo();
            return x.cut(0);
        }, 2);
        Kit.refused("undo() of a cut, then another", () -> {
            StampMap x = three();
            x.cut(0);
            return x;
        }, () -> {
            StampMap x = three();
            x.cut(1);
            return x;
        }, x -> {
            x.undo();
            return x.cut(1);
        }, 1);
        Kit.refused("undo() of a raise, then a sweep", () -> {
            StampMap x = three();
            x.cut(0);
            x.raise(0);
            return x;
        }, () -> {
            StampMap x = three();
            x.cut(0);
            x.sweep();
            return x;
        }, x -> {
            x.undo();
            return x.sweep();
        }, 0);
    }

    /** What was made by an ACT that was taken back is not found behind the one done instead. */
    private static void undoLeavesNothing() {
        Kit.says("UNDO takes back the latest ACT that was not (VERSION, NODES, slots, all)");
        String[] texts = {Kit.THREE, Kit.THREE.replace("slots 2", "slots 1"), Kit.THREE.replace("slots 2", "slots 6")};
        for (String text : texts) {
            Kit.refused("undo() of a sweep that made two, then a cut and a raise", () -> Kit.swept(text, 2), () -> {
                StampMap x = Kit.swept(text, 1);
                x.cut(0);
                x.raise(0);
                x.sweep();
                return x;
            }, x -> {
                x.undo();
                x.cut(0);
                x.raise(0);
                return x.sweep();
            }, 3);
            Kit.refused("undo() of one that copied, then a raise", () -> {
                StampMap x = Kit.swept(text, 2);
                x.cut(2);
                x.sweep();
                return x;
            }, () -> {
                StampMap x = Kit.swept(text, 2);
                x.cut(2);
                x.raise(2);
                x.cut(0);
                x.raise(0);
                return x;
            }, x -> {
                x.undo();
                x.raise(2);
                x.cut(0);
                return x.raise(0);
            }, 3);
            Kit.refused("undo() of all, then others", () -> Kit.swept(text, 5), () -> {
                StampMap x = Kit.swept(text, 1);
                x.cut(0);
                x.sweep();
                x.raise(0);
                x.cut(1);
                return x;
            }, x -> {
                for (int i = 0; i < 4; i++) {
                    x.undo();
                }
                x.cut(0);
                x.sweep();
                x.raise(0);
                return x.cut(1);
            }, 2);
        }
    }

    private static void undoSlots() {
        Kit.says("UNDO takes back the latest ACT that was not (VERSION, NODES, slots, all)");
        // c, b and a in one row to the right; d to a's left: nodes 0, 1, 2 and 3.
        String text = "seg a at 0 10 to 60 10;seg b at 0 20 to 60 20;seg c at 0 30 to 60 30;seg d at 1 5 to 60 5;"
                + "weighs 9-number;slots 6;";
        StampMap x = Kit.swept(text, 1);
        x.cut(1);
        Kit.due("read(2, 1, 2) when b is cut", x.read(2, 1, 2), 0);
        x.undo();
        x.cut(2);
        Kit.due("read(2, 1, 2) when c is cut instead", x.read(2, 1, 2), 1);
        Kit.due("change(2, 0, 0)", x.change(2, 0, 0), -2);
        Kit.due("node(2, 4)", x.node(2, 4), 0);
        Kit.due("read(1, 1, 2)", x.read(1, 1, 2), -1);
        // One after the other: each takes one slot, and gives it back.
        x = Kit.swept(text, 2);
        for (int i = 0; i < 5; i++) {
            Kit.due("slots used ahead of act " + i, x.node(2, 4), i + 1);
            int done = i % 2 == 0 ? x.cut(1) : x.raise(1);
            Kit.due("act " + i, done >= 0, true);
        }
        for (int i = 5; i > 0; i--) {
            Kit.due("slots used behind act " + i, x.node(2, 4), i + 1);
            Kit.due("undo()", x.undo(), true);
            Kit.due("slots used behind undo() " + i, x.node(2, 4), i);
            Kit.due("what is taken back", x.change(2, i, 0), -2);
            Kit.due("what is not", x.change(2, i - 1, 0), i + 1);
        }
        x.undo();
        Kit.due("slots used of two", x.node(2, 4), 0);
    }

    private static void undoOfNone() {
        Kit.says("UNDO: true; false if there is none.");
        Kit.due("undo() of one", Kit.swept(Kit.THREE, 1).undo(), true);
        Kit.refused("undo() of none", () -> Kit.told(Kit.THREE), x -> x.undo() ? 1 : 0, 0);
        Kit.refused("undo() of a new object", StampMap::new, x -> x.undo() ? 1 : 0, 0);
        Kit.refused("undo() when all is undone", () -> {
            StampMap x = three();
            x.undo();
            x.undo();
            x.undo();
            return x;
        }, x -> x.undo() ? 1 : 0, 0);
        Kit.refused("undo() behind back()", () -> {
            StampMap x = three();
            x.image(0);
            x.back(0);
            return x;
        }, x -> x.undo() ? 1 : 0, 0);
    }

    private static void redo() {
        Kit.says("REDO does that again which was taken back last (till another ACT)");
        Kit.refused("redo() of two of three", () -> {
            StampMap x = three();
            x.cut(1);
            x.undo();
            x.undo();
            x.redo();
            return x;
        }, () -> {
            StampMap x = three();
            x.cut(1);
            x.undo();
            return x;
        }, x -> 0, 0);
        String[] acts = {"sweep", "cut", "raise"};
        for (String act : acts) {
            StampMap x = three();
            x.cut(1);
            x.cut(0);
            x.undo();
            Kit.due("about(7)", x.about(7), 1);
            int answer = act.equals("sweep") ? x.sweep() : act.equals("cut") ? x.cut(0) : x.raise(1);
            Kit.due(act, answer >= 0, true);
            Kit.due("redo() behind another " + act, x.redo(), false);
            Kit.due("about(7)", x.about(7), 0);
        }
        // What does nothing is no other ACT.
        StampMap x = three();
        x.cut(1);
        x.undo();
        x.cut(2);
        x.raise(0);
        x.row(9);
        x.image(0);
        x.later(4);
        x.seen(0, true);
        Kit.due("redo()", x.redo(), true);
        Kit.due("about(3)", x.about(3), 1);
    }

    private static void redoOfNone() {
        Kit.says("REDO: true; false if there is none.");
        Kit.refused("redo() of none", ActBoundsTest::three, x -> x.redo() ? 1 : 0, 0);
        Kit.refused("redo() of a new object", StampMap::new, x -> x.redo() ? 1 : 0, 0);
        Kit.refused("redo() when all is done again", () -> {
            StampMap x = three();
            x.undo();
            x.redo();
            return x;
        }, x -> x.redo() ? 1 : 0, 0);
        Kit.refused("redo() behind back()", () -> {
            StampMap x = three();
            x.image(0);
            x.undo();
            x.back(0);
            return x;
        }, x -> x.redo() ? 1 : 0, 0);
        StampMap x = three();
        x.undo();
        Kit.due("redo() of one", x.redo(), true);
    }

    private static void fortyActs() {
        Kit.says("40 at most, all of them, are kept.");
        StampMap x = acted(40);
        Kit.due("about(6)", x.about(6), 40);
        for (int i = 1; i <= 40; i++) {
            Kit.due("undo() " + i, x.undo(), true);
            Kit.due("about(1)", x.about(1), 40 - i);
            Kit.due("about(7)", x.about(7), i);
        }
        Kit.due("undo() 41", x.undo(), false);
        Kit.due("about(4)", x.about(4), 0);
        for (int i = 1; i <= 40; i++) {
            Kit.due("redo() " + i, x.redo(), true);
            Kit.due("about(6)", x.about(6), i);
        }
        Kit.due("redo() 41", x.redo(), false);
        Kit.due("segment(0, 5)", x.segment(0, 5), 1);
        Kit.refused("forty undone and done again", () -> acted(40), y -> {
            int many = 0;
            while (y.undo()) {
                many++;
            }
            while (y.redo()) {
                many++;
            }
            return many;
        }, 80);
    }

    // ---- what is told of one ----

    private static void segment() {
        Kit.says("4: 1 if it is IN, else 0, 5: 1 if it was CUT and not RAISED since, else 0, 6: the NODE that it has "
                + "(NONE: it is not IN)");
        StampMap x = Kit.swept(Kit.THREE, 1);
        dueNow(x, "ahead of its begin", 0, 0, -1);
        x.sweep();
        dueNow(x, "begun", 1, 0, 2);
        x.cut(1);
        dueNow(x, "cut", 0, 1, -1);
        x.raise(1);
        dueNow(x, "raised", 1, 0, 4);
        x.cut(1);
        dueNow(x, "cut again", 0, 1, -1);
        x.sweep();
        dueNow(x, "cut, farther on", 0, 1, -1);
        x.sweep();
        dueNow(x, "cut, at its end", 0, 1, -1);
        x.sweep();
        dueNow(x, "cut, behind all", 0, 1, -1);
        dueNow(Kit.swept(Kit.THREE, 4), "ended", 0, 0, -1);
    }

    private static void dueNow(StampMap x, String story, int isIn, int isCut, int node) {
        Kit.due("segment(1, 4) " + story, x.segment(1, 4), isIn);
        Kit.due("segment(1, 5) " + story, x.segment(1, 5), isCut);
        Kit.due("segment(1, 6) " + story, x.segment(1, 6), node);
    }

    private static void segmentRefused() {
        Kit.says("-2 if there is none such, or for another what.");
        StampMap x = Kit.rich();
        int[] c = {5, 5, 10, 0, 1, 0};
        for (int what = 0; what < 6; what++) {
            Kit.due("segment(2, " + what + ")", x.segment(2, what), c[what]);
        }
        for (int no : NO_SEGMENTS) {
            for (int what = 0; what <= 6; what++) {
                Kit.due("segment(" + no + ", " + what + ")", x.segment(no, what), -2);
            }
        }
        Kit.due("segment(0, 7)", x.segment(0, 7), -2);
        for (int far : FAR) {
            Kit.due("segment(0, " + far + ")", x.segment(0, far), -2);
        }
        Kit.due("segment(7, 0) of eight", Kit.told(Kit.EIGHT).segment(7, 0), 0);
        Kit.due("segment(8, 0) of eight", Kit.told(Kit.EIGHT).segment(8, 0), -2);
        Kit.refused("segment(3, 0)", Kit::rich, y -> y.segment(3, 0), -2);
        Kit.refused("segment(0, 7)", Kit::rich, y -> y.segment(0, 7), -2);
    }

    private static void version() {
        Kit.says("2: its ROOT, a NODE (NONE: none), 3: how high its TREE is (0: empty), 4: COST");
        StampMap x = Kit.swept(Kit.THREE, 5);
        int[][] versions = {{0, 0, -1, 0, 0}, {0, 1, 0, 1, 1}, {5, 7, 0, 2, 4}, {10, 3, 3, 2, 1}, {15, 1, 3, 1, 1},
            {20, 0, -1, 0, 0}};
        for (int stamp = 0; stamp <= 5; stamp++) {
            for (int what = 0; what < 5; what++) {
                Kit.due("version(" + stamp + ", " + what + ")", x.version(stamp, what), versions[stamp][what]);
            }
        }
        x = Kit.swept(Kit.EIGHT + "weighs number;", 2);
        Kit.due("version(1, 3), the highest that can be", x.version(1, 3), 8);
        Kit.due("version(1, 1)", x.version(1, 1), 255);
        Kit.due("version(2, 3)", x.version(2, 3), 0);
    }

    private static void versionRefused() {
        Kit.says("4: COST; -2 if there is none such, or for another what.");
        StampMap x = Kit.rich();
        Kit.due("version(3, 0)", x.version(3, 0), 5);
        for (int what = -1; what <= 5; what++) {
            Kit.due("version(4, " + what + "), undone", x.version(4, what), -2);
            Kit.due("version(-1, " + what + ")", x.version(-1, what), -2);
        }
        for (int far : FAR) {
            Kit.due("version(" + far + ", 0)", x.version(far, 0), -2);
            Kit.due("version(1, " + far + ")", x.version(1, far), -2);
        }
        Kit.due("version(1, 5)", x.version(1, 5), -2);
        Kit.refused("version(4, 0)", Kit::rich, y -> y.version(4, 0), -2);
        Kit.refused("version(1, 5)", Kit::rich, y -> y.version(1, 5), -2);
    }

    private static void node() {
        Kit.says("5: the NODE whose CHILD it is in the newest VERSION (NONE: the ROOT, or it is not there), "
                + "6: 1 if it is there, else 0");
        StampMap x = Kit.swept(Kit.THREE, 2);
        int[] parents = {-1, 0, 0};
        for (int node = 0; node < 3; node++) {
            Kit.due("node(" + node + ", 5)", x.node(node, 5), parents[node]);
            Kit.due("node(" + node + ", 6)", x.node(node, 6), 1);
        }
        x.sweep();
        int[] now = {-1, -1, 3, -1};
        int[] there = {0, 0, 1, 1};
        for (int node = 0; node < 4; node++) {
            Kit.due("node(" + node + ", 5)", x.node(node, 5), now[node]);
            Kit.due("node(" + node + ", 6)", x.node(node, 6), there[node]);
        }
        x.sweep();
        x.sweep();
        for (int node = 0; node < 4; node++) {
            Kit.due("node(" + node + ", 5) behind all", x.node(node, 5), -1);
            Kit.due("node(" + node + ", 6) behind all", x.node(node, 6), 0);
        }
    }

    private static void nodeRefused() {
        Kit.says("6: 1 if it is there, else 0; -2 if there is none such, or for another what.");
        StampMap x = three();
        Kit.due("node(3, 0)", x.node(3, 0), 0);
        for (int what = 0; what <= 6; what++) {
            Kit.due("node(4, " + what + ")", x.node(4, what), -2);
            Kit.due("node(-1, " + what + ")", x.node(-1, what), -2);
        }
        Kit.due("node(0, 7)", x.node(0, 7), -2);
        for (int far : FAR) {
            Kit.due("node(" + far + ", 0)", x.node(far, 0), -2);
            Kit.due("node(0, " + far + ")", x.node(0, far), -2);
        }
        x.undo();
        Kit.due("node(3, 0), undone", x.node(3, 0), -2);
        Kit.refused("node(99, 0)", Kit::rich, y -> y.node(99, 0), -2);
        Kit.refused("node(0, 7)", Kit::rich, y -> y.node(0, 7), -2);
    }

    private static void change() {
        Kit.says("Of a CHANGE (0 ..) of a NODE what 0: its STAMP, 1: its side, 2: the NODE (NONE: none)");
        StampMap x = Kit.swept("seg a at 0 10 to 60 10;seg b at 0 20 to 60 20;seg c at 1 5 to 60 5;weighs 9-number;slots 6;", 1);
        int a = x.segment(0, 6);
        x.cut(1);
        x.sweep();
        int[][] changes = {{2, 1, -1}, {3, 0, x.segment(2, 6)}};
        for (int i = 0; i < 2; i++) {
            for (int what = 0; what < 3; what++) {
                Kit.due("change(a, " + i + ", " + what + ")", x.change(a, i, what), changes[i][what]);
            }
        }
        Kit.due("change(a, 2, 0)", x.change(a, 2, 0), -2);
    }

    private static void changeRefused() {
        Kit.says("2: the NODE (NONE: none); -2 if there is none such, or for another what.");
        StampMap x = three();
        Kit.due("change(0, 1, 0)", x.change(0, 1, 0), 2);
        Kit.due("change(0, 2, 0)", x.change(0, 2, 0), -2);
        Kit.due("change(0, 5, 0), slots there are none", x.change(0, 5, 0), -2);
        Kit.due("change(0, 6, 0), another node's", x.change(0, 6, 0), -2);
        Kit.due("change(0, -1, 0)", x.change(0, -1, 0), -2);
        Kit.due("change(1, 0, 0)", x.change(1, 0, 0), -2);
        Kit.due("change(3, 0, 0)", x.change(3, 0, 0), -2);
        Kit.due("change(4, 0, 0)", x.change(4, 0, 0), -2);
        Kit.due("change(0, 0, 3)", x.change(0, 0, 3), -2);
        for (int far : FAR) {
            Kit.due("change(" + far + ", 0, 0)", x.change(far, 0, 0), -2);
            Kit.due("change(0, " + far + ", 0)", x.change(0, far, 0), -2);
            Kit.due("change(0, 0, " + far + ")", x.change(0, 0, far), -2);
        }
        x.cut(1);
        Kit.due("change(3, 0, 0) written", x.change(3, 0, 0), 4);
        x.undo();
        Kit.due("change(3, 0, 0) undone", x.change(3, 0, 0), -2);
        Kit.refused("change(0, 9, 0)", Kit::rich, y -> y.change(0, 9, 0), -2);
    }

    private static StampMap noneLies() {
        StampMap x = Kit.rich();
        x.row(0);
        return x;
    }

    private static void row() {
        Kit.says("How many SEGMENTS are IN a VERSION; NONE if there is none such. They lie there then, from the lowest on "
                + "(behind NONE: nothing).");
        StampMap x = Kit.rich();
        Kit.due("row(0)", x.row(0), 0);
        Kit.dueLying("row(0)", x);
        Kit.due("row(1)", x.row(1), 1);
        Kit.dueLying("row(1)", x, 0);
        Kit.due("row(2)", x.row(2), 3);
        Kit.dueLying("row(2)", x, 2, 0, 1);
        Kit.due("row(3)", x.row(3), 2);
        Kit.dueLying("row(3)", x, 2, 0);
        int[] no = {4, 5, 40, 41, -1, Integer.MIN_VALUE, Integer.MAX_VALUE};
        for (int stamp : no) {
            x.row(2);
            Kit.due("row(" + stamp + ")", x.row(stamp), -1);
            Kit.dueLying("row(" + stamp + ")", x);
        }
        Kit.refused("row(4)", Kit::rich, ActBoundsTest::noneLies, y -> y.row(4), -1);
        Kit.refused("row(-1)", Kit::rich, ActBoundsTest::noneLies, y -> y.row(-1), -1);
        Kit.due("row(1) of eight", Kit.swept(Kit.EIGHT, 1).row(1), 8);
    }

    private static void shape() {
        Kit.says("Likewise, each ahead of its subtrees, left ahead of right: how high the TREE is.");
        StampMap x = Kit.rich();
        Kit.due("shape(0)", x.shape(0), 0);
        Kit.dueLying("shape(0)", x);
        Kit.due("shape(1)", x.shape(1), 1);
        Kit.dueLying("shape(1)", x, 0);
        Kit.due("shape(2)", x.shape(2), 2);
        Kit.dueLying("shape(2)", x, 0, 2, 1);
        int[] no = {4, 5, 40, 41, -1, Integer.MIN_VALUE, Integer.MAX_VALUE};
        for (int stamp : no) {
            x.row(2);
            Kit.due("shape(" + stamp + ")", x.shape(stamp), -1);
            Kit.dueLying("shape(" + stamp + ")", x);
        }
        Kit.refused("shape(4)", Kit::rich, ActBoundsTest::noneLies, y -> y.shape(4), -1);
        x = Kit.swept(Kit.EIGHT + "weighs (number=3)*20+(number=1)*8+(number=5)*8+number;", 1);
        Kit.due("shape(1) of eight", x.shape(1), 4);
        Kit.dueLying("shape(1) of eight", x, 3, 1, 0, 2, 5, 4, 7, 6);
    }

    // ---- versions compared ----

    private static void unlike() {
        Kit.says("How many SEGMENTS are IN just one of two VERSIONS; NONE if one can't be.");
        StampMap x = three();
        int[] in = {0, 1, 7, 3};
        for (int one = -1; one <= 4; one++) {
            for (int two = -1; two <= 4; two++) {
                boolean are = one >= 0 && one < 4 && two >= 0 && two < 4;
                int want = are ? Integer.bitCount(in[one] ^ in[two]) : -1;
                Kit.due("unlike(" + one + ", " + two + ")", x.unlike(one, two), want);
            }
        }
        for (int far : FAR) {
            Kit.due("unlike(" + far + ", 0)", x.unlike(far, 0), -1);
            Kit.due("unlike(0, " + far + ")", x.unlike(0, far), -1);
        }
        Kit.due("unlike(0, 1) of eight", Kit.swept(Kit.EIGHT, 1).unlike(0, 1), 8);
        Kit.refused("unlike(0, 4)", Kit::rich, y -> y.unlike(0, 4), -1);
    }

    private static void shared() {
        Kit.says("How many NODES two VERSIONS have in common (looked at from their ROOTS); NONE if one can't be.");
        StampMap x = three();
        int[][] common = {{0, 0, 0, 0}, {0, 1, 1, 0}, {0, 1, 3, 1}, {0, 0, 1, 2}};
        for (int one = -1; one <= 4; one++) {
            for (int two = -1; two <= 4; two++) {
                boolean are = one >= 0 && one < 4 && two >= 0 && two < 4;
                Kit.due("shared(" + one + ", " + two + ")", x.shared(one, two), are ? common[one][two] : -1);
            }
        }
        for (int far : FAR) {
            Kit.due("shared(" + far + ", 0)", x.shared(far, 0), -1);
            Kit.due("shared(0, " + far + ")", x.shared(0, far), -1);
        }
        // One raised again has another NODE; a NODE that changed is the same one.
        x = Kit.swept(Kit.THREE, 2);
        x.cut(1);
        x.raise(1);
        Kit.due("shared(2, 3)", x.shared(2, 3), 1);
        Kit.due("shared(2, 4)", x.shared(2, 4), 1);
        Kit.due("shared(3, 4)", x.shared(3, 4), 2);
        Kit.refused("shared(0, 4)", Kit::rich, y -> y.shared(0, 4), -1);
    }

    private static void written() {
        Kit.says("How many slots were written in all.");
        StampMap x = Kit.told(Kit.THREE);
        int[] sums = {0, 0, 2, 2, 3, 3};
        for (int stamp = 0; stamp <= 5; stamp++) {
            Kit.due("written() at " + stamp, x.written(), sums[stamp]);
            x.sweep();
        }
        for (int stamp = 4; stamp >= 0; stamp--) {
            x.undo();
            Kit.due("written() back at " + stamp, x.written(), sums[stamp]);
        }
    }

    private static void copies() {
        Kit.says("How often a NODE was COPIED (segment NONE: all together; else of that SEGMENT); -2 if there is none such.");
        StampMap x = three();
        int[] many = {1, 1, 0, 0};
        for (int k = -1; k < 3; k++) {
            Kit.due("copies(" + k + ")", x.copies(k), many[k + 1]);
        }
        int[] no = {-2, 3, 4, 8, 31, Integer.MIN_VALUE, Integer.MAX_VALUE};
        for (int k : no) {
            Kit.due("copies(" + k + ")", x.copies(k), -2);
        }
        Kit.due("copies(-1) without SEGMENTS", new StampMap().copies(-1), 0);
        Kit.due("copies(0) without SEGMENTS", new StampMap().copies(0), -2);
        Kit.refused("copies(3)", Kit::rich, y -> y.copies(3), -2);
        Kit.refused("copies(-2)", Kit::rich, y -> y.copies(-2), -2);
    }

    private static void dearest() {
        Kit.says("DEAREST: the STAMP (1 ..) of the greatest COST; of like ones the first.");
        Kit.due("dearest() if there was no ACT", Kit.told(Kit.THREE).dearest(), -1);
        Kit.due("dearest() of a new object", new StampMap().dearest(), -1);
        Kit.due("dearest() of one", Kit.swept(Kit.THREE, 1).dearest(), 1);
        Kit.due("dearest() of a dearer one", Kit.swept(Kit.THREE, 2).dearest(), 2);
        Kit.due("dearest() behind cheaper ones", Kit.swept(Kit.THREE, 5).dearest(), 2);
        StampMap x = Kit.swept("seg a at 0 0 to 10 0;seg b at 10 0 to 20 0;seg c at 20 0 to 30 0;", 3);
        Kit.due("version(1, 4)", x.version(1, 4), x.version(3, 4));
        Kit.due("dearest() of like ones", x.dearest(), 1);
        x = Kit.swept(Kit.THREE, 2);
        x.undo();
        Kit.due("dearest() undone", x.dearest(), 1);
        x.undo();
        Kit.due("dearest(), all undone", x.dearest(), -1);
        // An ACT that costs nothing is one, too: of like ones the first.
        x = Kit.swept("seg a at 5 0 to 10 0;", 2);
        Kit.due("version(2, 4)", x.version(2, 4), 0);
        Kit.due("dearest()", x.dearest(), 1);
    }

    private static void paid() {
        Kit.says("PAID: slots written in all, less how often a NODE was COPIED times one less than how many slots a NODE has "
                + "(never below 0).");
        for (int slots = 1; slots <= 6; slots++) {
            StampMap x = Kit.swept("seg a at 0 10 to 60 10;seg b at 0 20 to 60 20;weighs 9-number;slots " + slots + ";", 1);
            for (int acts = 1; acts <= 20; acts++) {
                int done = acts % 2 == 1 ? x.cut(1) : x.raise(1);
                Kit.due("act", done >= 0, true);
                int copies = acts / (slots + 1);
                Kit.due("paid() behind " + acts + " of " + slots, x.paid(), acts - copies - copies * (slots - 1));
            }
        }
        // All is spent: two changes at once find one slot free of two, and copy.
        StampMap x = Kit.swept("seg a at 0 30 to 60 30;seg d at 0 50 to 60 50;seg b at 1 40 to 60 40;seg c at 1 20 to 60 20;"
                + "weighs (number=0)*9+(number=1)*5;slots 2;", 1);
        x.cut(1);
        Kit.due("paid() of one", x.paid(), 1);
        x.sweep();
        Kit.due("copies(-1)", x.copies(-1), 1);
        Kit.due("paid() of all", x.paid(), 0);
        Kit.due("paid() of nothing", new StampMap().paid(), 0);
    }

    private static void credit() {
        Kit.says("Slots used of NODES that are in the newest VERSION.");
        StampMap x = Kit.told(Kit.THREE);
        int[] sums = {0, 0, 2, 0, 1, 0};
        for (int stamp = 0; stamp <= 5; stamp++) {
            Kit.due("credit() at " + stamp, x.credit(), sums[stamp]);
            x.sweep();
        }
        // What was cut takes its slots along.
        x = Kit.swept(Kit.THREE, 2);
        x.cut(0);
        Kit.due("credit() without a", x.credit(), 1);
        Kit.due("written()", x.written(), 3);
    }

    private static StampMap busy(int slots) {
        StampMap x = Kit.swept(Kit.EIGHT + "weighs (number=3)*20+(number=1)*8+(number=5)*8+number;slots " + slots + ";", 1);
        int[] acts = {7, 7, 3, 3, 0, 5, 5, 0, 2, 1, 1, 4, 2, 7, 6, 4, 7, 6, 3};
        for (int k : acts) {
            if (x.segment(k, 4) == 1) {
                x.cut(k);
            } else {
                x.raise(k);
            }
        }
        return x;
    }

    private static void law() {
        Kit.says("How often a NODE would have been COPIED for all VERSIONS that there are, if slots told n (1 .. 6)");
        for (int slots = 1; slots <= 6; slots++) {
            for (int n = 1; n <= 6; n++) {
                Kit.due("law(" + n + ") with " + slots, busy(slots).law(n), busy(n).copies(-1));
            }
        }
        Kit.due("one slot copies oftener than six", busy(1).copies(-1) > busy(6).copies(-1), true);
        StampMap x = busy(2);
        while (x.undo()) {
            Kit.due("law(2) as so often copied", x.law(2), x.copies(-1));
        }
        Kit.due("law(1) of no VERSION", x.law(1), 0);
        Kit.refused("law(1)", () -> busy(4), y -> y.law(1), busy(1).copies(-1));
    }

    private static void lawRefused() {
        Kit.says("if slots told n (1 .. 6); NONE for another n.");
        StampMap x = busy(3);
        int[] no = {0, 7, -1, Integer.MIN_VALUE, Integer.MAX_VALUE};
        for (int n : no) {
            Kit.due("law(" + n + ")", x.law(n), -1);
        }
        Kit.due("law(1)", x.law(1) >= 0, true);
        Kit.due("law(6)", x.law(6) >= 0, true);
        Kit.refused("law(0)", Kit::rich, y -> y.law(0), -1);
        Kit.refused("law(7)", Kit::rich, y -> y.law(7), -1);
    }

    private static void busiest() {
        Kit.says("The SEGMENT COPIED most often; of like ones the first; NONE without SEGMENTS.");
        Kit.due("busiest() without SEGMENTS", new StampMap().busiest(), -1);
        Kit.due("busiest() of one never copied", Kit.told("seg a at 0 0 to 1 1;").busiest(), 0);
        Kit.due("busiest() of none copied", Kit.told(Kit.THREE).busiest(), 0);
        StampMap x = Kit.swept(Kit.EIGHT + "weighs 9-number;slots 1;", 1);
        x.cut(7);
        x.raise(7);
        Kit.due("copies(6)", x.copies(6), 1);
        Kit.due("busiest() of one copied", x.busiest(), 6);
        x.cut(7);
        x.raise(7);
        Kit.due("copies(5)", x.copies(5), 1);
        Kit.due("copies(6)", x.copies(6), 2);
        Kit.due("busiest() of the oftener", x.busiest(), 6);
        // a and d are roots apart, each copied once: of like ones the first.
        x = Kit.swept("seg a at 30 10 to 60 10;seg b at 30 20 to 60 20;seg c at 0 20 to 20 20;seg d at 0 10 to 20 10;"
                + "weighs (number=0)*9+(number=3)*9;slots 1;", 1);
        x.cut(2);
        x.raise(2);
        Kit.due("busiest() of d alone", x.busiest(), 3);
        x.sweep();
        x.sweep();
        x.cut(1);
        x.raise(1);
        Kit.due("copies(0)", x.copies(0), 1);
        Kit.due("copies(3)", x.copies(3), 1);
        Kit.due("busiest() of a and d", x.busiest(), 0);
    }

    private static void widest() {
        Kit.says("The VERSION in which most are IN; of like ones the first.");
        Kit.due("widest() of STAMP 0 alone", Kit.told(Kit.THREE).widest(), 0);
        StampMap x = Kit.told(Kit.THREE);
        int[] widest = {0, 1, 2, 2, 2, 2};
        for (int stamp = 0; stamp <= 5; stamp++) {
            Kit.due("widest() at " + stamp, x.widest(), widest[stamp]);
            x.sweep();
        }
        x = Kit.swept(Kit.THREE, 2);
        x.cut(0);
        x.raise(0);
        Kit.due("widest() of like ones", x.widest(), 2);
        x = Kit.swept("seg a at 0 0 to 1 0;", 2);
        Kit.due("widest()", x.widest(), 1);
    }

    private static void highest() {
        Kit.says("The VERSION of the highest TREE; of like ones the first.");
        StampMap x = Kit.told(Kit.THREE);
        int[] highest = {0, 1, 2, 2, 2, 2};
        for (int stamp = 0; stamp <= 5; stamp++) {
            Kit.due("highest() at " + stamp, x.highest(), highest[stamp]);
            x.sweep();
        }
        // One that has fewer may be higher.
        x = Kit.swept("seg a at 0 10 to 9 10;seg b at 0 20 to 9 20;seg c at 0 5 to 1 5;seg d at 1 30 to 9 30;"
                + "weighs 9-number;", 1);
        Kit.due("version(1, 3)", x.version(1, 3), 2);
        x.sweep();
        Kit.due("version(2, 3)", x.version(2, 3), 3);
        Kit.due("highest()", x.highest(), 2);
        Kit.due("widest()", x.widest(), 1);
    }

    private static void stays() {
        Kit.says("VERSIONS in which a SEGMENT is IN: how many; NONE if there is none such.");
        StampMap x = Kit.told(Kit.THREE);
        int[][] many = {{0, 0, 0}, {1, 0, 0}, {2, 1, 1}, {3, 2, 1}, {4, 2, 1}, {4, 2, 1}};
        for (int stamp = 0; stamp <= 5; stamp++) {
            for (int k = 0; k < 3; k++) {
                Kit.due("stays(" + k + ") at " + stamp, x.stays(k), many[stamp][k]);
            }
            x.sweep();
        }
        for (int no : NO_SEGMENTS) {
            Kit.due("stays(" + no + ")", x.stays(no), -1);
        }
        Kit.due("stays(0) of forty", acted(40).stays(2), 40);
        Kit.refused("stays(3)", Kit::rich, y -> y.stays(3), -1);
        Kit.refused("stays(-1)", Kit::rich, y -> y.stays(-1), -1);
    }

    // ---- boxes ----

    private static void image() {
        Kit.says("All VERSIONS, NODES are kept in a BOX 0 .. 2: the newest STAMP");
        for (int box = 0; box <= 2; box++) {
            StampMap x = three();
            Kit.due("image(" + box + ")", x.image(box), 3);
            Kit.due("about(6)", x.about(6), 3);
            x.cut(0);
            for (int other = 0; other <= 2; other++) {
                if (other != box) {
                    Kit.due("back(" + other + ")", x.back(other), -1);
                }
            }
            Kit.due("back(" + box + ")", x.back(box), 3);
        }
        Kit.due("image(0) of nothing", new StampMap().image(0), 0);
        // What is kept a second time is kept instead.
        StampMap x = Kit.swept(Kit.THREE, 1);
        x.image(0);
        x.sweep();
        x.image(0);
        x.sweep();
        Kit.due("back(0)", x.back(0), 2);
        Kit.due("undo()", x.undo(), false);
        // Nothing of what goes on is in the box.
        x = three();
        x.image(1);
        x.undo();
        x.undo();
        x.cut(0);
        Kit.due("back(1)", x.back(1), 3);
        Kit.due("segment(0, 6)", x.segment(0, 6), 3);
        Kit.due("version(2, 1)", x.version(2, 1), 7);
    }

    private static void imageRefused() {
        Kit.says("the newest STAMP; NONE if there is none such.");
        Kit.refused("image(3)", Kit::rich, x -> x.image(3), -1);
        Kit.refused("image(-1)", Kit::rich, x -> x.image(-1), -1);
        for (int far : FAR) {
            Kit.due("image(" + far + ")", Kit.rich().image(far), -1);
        }
        Kit.due("image(0)", Kit.rich().image(0), 3);
        Kit.due("image(2)", Kit.rich().image(2), 3);
    }

    private static void back() {
        Kit.says("All is as it was kept (no ACTS are kept then): the newest STAMP");
        Kit.refused("back(1) behind acts", () -> {
            StampMap x = Kit.rich();
            x.image(1);
            x.back(1);
            return x;
        }, x -> {
            x.sweep();
            x.raise(1);
            x.cut(0);
            x.undo();
            return x.back(1);
        }, 3);
        Kit.refused("back(0) to an earlier STAMP", () -> {
            StampMap x = Kit.swept(Kit.THREE, 1);
            x.image(0);
            x.back(0);
            return x;
        }, x -> {
            x.sweep();
            x.cut(0);
            x.sweep();
            return x.back(0);
        }, 1);
        Kit.refused("back(0) to STAMP 0", () -> {
            StampMap x = Kit.told(Kit.THREE);
            x.image(0);
            return x;
        }, x -> {
            x.sweep();
            x.cut(0);
            return x.back(0);
        }, 0);
        StampMap x = Kit.rich();
        Kit.due("back(2)", x.back(2), 3);
        Kit.due("segment(1, 5)", x.segment(1, 5), 1);
        Kit.due("next()", x.next(), 10);
        Kit.due("about(6)", x.about(6), 0);
        Kit.due("about(7)", x.about(7), 0);
        Kit.due("raise(1)", x.raise(1), 3);
        Kit.due("about(6)", x.about(6), 1);
        Kit.due("undo()", x.undo(), true);
        Kit.due("undo() of what was kept", x.undo(), false);
        // What is not of VERSIONS and NODES stays as it is.
        Kit.due("back(0)", x.back(0), 1);
        Kit.due("about(8)", x.about(8), 2);
        Kit.due("about(9)", x.about(9), 10);
        Kit.due("about(10)", x.about(10), 13);
        Kit.due("fault(0)", x.fault(0), 4);
        Kit.dueLying("back(0)", x, 0, 2, 1);
    }

    /** What was kept comes back whole, though all is otherwise by then, and though more was kept there once. */
    private static void backToOther() {
        Kit.says("All VERSIONS, NODES are kept in a BOX 0 .. 2");
        String[] texts = {Kit.THREE, Kit.THREE.replace("slots 2", "slots 1"), Kit.THREE.replace("slots 2", "slots 6")};
        for (String text : texts) {
            for (int box = 0; box < 3; box++) {
                int kept = box;
                Kit.Maker asItWas = () -> {
                    StampMap x = Kit.swept(text, 2);
                    x.cut(1);
                    x.sweep();
                    x.raise(1);
                    x.cut(0);
                    x.image(kept);
                    x.back(kept);
                    return x;
                };
                Kit.refused("back() of more", asItWas, () -> {
                    StampMap x = asItWas.make();
                    x.image(kept);
                    return x;
                }, x -> {
                    x.raise(0);
                    x.sweep();
                    return x.back(kept);
                }, 6);
                Kit.refused("back() to what was, from less and other", () -> {
                    StampMap x = Kit.swept(text, 2);
                    x.cut(1);
                    x.sweep();
                    x.raise(1);
                    x.cut(0);
                    x.image(kept);
                    for (int i = 0; i < 5; i++) {
                        x.undo();
                    }
                    x.cut(0);
                    x.raise(0);
                    x.sweep();
                    x.cut(2);
                    x.cut(0);
                    x.raise(2);
                    x.sweep();
                    return x;
                }, asItWas, x -> x.back(kept), 6);
                Kit.refused("back() to less than was kept there once", () -> {
                    StampMap x = asItWas.make();
                    x.raise(0);
                    x.sweep();
                    x.sweep();
                    x.image(kept);
                    x.undo();
                    x.undo();
                    x.undo();
                    x.image(kept);
                    x.sweep();
                    x.sweep();
                    return x;
                }, asItWas, x -> x.back(kept), 6);
            }
        }
    }

    private static void backRefused() {
        Kit.says("the newest STAMP; NONE, doing nothing, if nothing was.");
        Kit.refused("back(1) of nothing", Kit::rich, x -> x.back(1), -1);
        Kit.refused("back(3)", Kit::rich, x -> x.back(3), -1);
        Kit.refused("back(-1)", Kit::rich, x -> x.back(-1), -1);
        for (int far : FAR) {
            Kit.due("back(" + far + ")", Kit.rich().back(far), -1);
        }
        Kit.due("back(0)", Kit.rich().back(0), 1);
        Kit.due("back(2)", Kit.rich().back(2), 3);
        StampMap x = Kit.rich("");
        x.map();
        Kit.due("back(0) behind map()", x.back(0), -1);
        Kit.due("back(2) behind map()", x.back(2), -1);
    }

    private static void about() {
        Kit.says("What 0: SEGMENTS, 1: the newest STAMP, 2: its place across, 3: SEGMENTS that are IN, as bits, 4: NODES, "
                + "5: slots, 6: ACTS that can be undone, 7: redone, 8: what is SEEN, 9: the TIME, 10: bytes on the TAPE, "
                + "11: units, 12: numbers that lie there.");
        StampMap x = Kit.rich();
        int[] answers = {3, 3, 5, 5, 4, 2, 3, 2, 2, 10, 13, 2, 3};
        for (int what = 0; what <= 12; what++) {
            Kit.due("about(" + what + ")", x.about(what), answers[what]);
        }
        x = Kit.swept(Kit.EIGHT, 1);
        Kit.due("about(3) of eight", x.about(3), 255);
        Kit.due("about(0) of eight", x.about(0), 8);
    }

    private static void aboutAnother() {
        Kit.says("12: numbers that lie there. NONE for another what.");
        Kit.due("about(12)", Kit.rich().about(12), 3);
        Kit.refused("about(13)", Kit::rich, x -> x.about(13), -1);
        Kit.refused("about(-1)", Kit::rich, x -> x.about(-1), -1);
        for (int far : FAR) {
            Kit.due("about(" + far + ")", Kit.rich().about(far), -1);
        }
    }
}
