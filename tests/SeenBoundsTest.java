/**
 * The document from "==== 4." on, with promises 47 to 52: what is seen of a point whose place across
 * is not known; each sentence that names a boundary, on both of its sides.
 */
public final class SeenBoundsTest {
    private static final int[] NO_SEGMENTS = {-2, 3, 4, 8, 31, Integer.MIN_VALUE, Integer.MAX_VALUE};
    private static final int[] FAR = {-1, -100, 100, Integer.MIN_VALUE, Integer.MAX_VALUE};
    private static final int[] NO_HEIGHTS = {-10, 100, -11, 101, Integer.MIN_VALUE, Integer.MAX_VALUE};

    public static void main(String[] args) {
        thirty();
        seenRefused();
        seenNone();
        wasOrWasNot();
        whollySwept();
        timeAtFirst();
        toldAt();
        untoldAt();
        untellRefused();
        later();
        laterRefused();
        latest();
        fits();
        fitsRefused();
        sure();
        sureRefused();
        ask();
        askFirst();
        askRefused();
        mapForgets();
        Kit.tell("what is seen");
    }

    private static StampMap three() {
        return Kit.told(Kit.THREE);
    }

    private static StampMap full() {
        StampMap x = Kit.rich();
        for (int i = 2; i < 30; i++) {
            x.seen(i % 3, false);
        }
        return x;
    }

    private static void thirty() {
        Kit.says("SEEN, 30 at most, is TOLD at a TIME (0 at first, goes on)");
        StampMap x = three();
        for (int i = 0; i < 30; i++) {
            Kit.due("seen() " + i, x.seen(0, false), i);
            Kit.due("about(8)", x.about(8), i + 1);
        }
        Kit.due("seen() 30", x.seen(0, false), -1);
        Kit.due("about(8)", x.about(8), 30);
        Kit.due("the thirtieth of a rich one", full().about(8), 30);
        Kit.refused("seen() of the 31st", SeenBoundsTest::full, y -> y.seen(0, true), -1);
        Kit.refused("seen() of the 31st, of none", SeenBoundsTest::full, y -> y.seen(-1, true), -1);
    }

    private static void seenRefused() {
        Kit.says("A SEEN (segment NONE: no REGION): its number; NONE, doing nothing, if one can't be, or there are 30.");
        StampMap x = three();
        Kit.due("seen(2, true)", x.seen(2, true), 0);
        Kit.due("seen(0, false)", x.seen(0, false), 1);
        Kit.due("seen(-1, false)", x.seen(-1, false), 2);
        for (int no : NO_SEGMENTS) {
            Kit.due("seen(" + no + ", true)", x.seen(no, true), -1);
            Kit.due("seen(" + no + ", false)", x.seen(no, false), -1);
        }
        Kit.due("about(8)", x.about(8), 3);
        Kit.refused("seen(3, false)", Kit::rich, y -> y.seen(3, false), -1);
        Kit.refused("seen(-2, false)", Kit::rich, y -> y.seen(-2, false), -1);
        // One untold makes no room: its number is its own.
        x = full();
        x.untell(5);
        x.untell(29);
        Kit.due("seen() behind one untold", x.seen(0, true), -1);
        Kit.due("about(8)", x.about(8), 30);
        Kit.due("seen(0, true) without SEGMENTS", new StampMap().seen(0, true), -1);
        Kit.due("seen(-1, true) without SEGMENTS", new StampMap().seen(-1, true), 0);
        Kit.due("seen(7, true) of eight", Kit.told(Kit.EIGHT).seen(7, true), 0);
        Kit.due("seen(8, true) of eight", Kit.told(Kit.EIGHT).seen(8, true), -1);
    }

    private static void seenNone() {
        Kit.says("that its REGION was a SEGMENT (or none: -1), or was not");
        StampMap x = three();
        Kit.due("seen(-1, true)", x.seen(-1, true), 0);
        // At 12 up only a and none are to be found: a from 0 to 19.
        Kit.due("fits(12, 0)", x.fits(12, 0), 41);
        Kit.due("sure(12, 0, 0)", x.sure(12, 0, 0), 20);
        x.untell(0);
        x.seen(-1, false);
        Kit.due("fits(12, 0)", x.fits(12, 0), 20);
        Kit.due("sure(12, 1, 0)", x.sure(12, 1, 0), 19);
        x = new StampMap();
        x.seen(-1, true);
        Kit.due("fits(12, 0) of no map", x.fits(12, 0), 61);
        x.seen(-1, false);
        Kit.due("fits(12, 0) of no map", x.fits(12, 0), 0);
    }

    private static void wasOrWasNot() {
        Kit.says("FITS for a height: places across by which all that counts is so.");
        for (int k = -1; k < 3; k++) {
            StampMap is = three();
            StampMap not = three();
            is.seen(k, true);
            not.seen(k, false);
            for (int up = 0; up <= 30; up++) {
                StampMap all = Kit.swept(Kit.THREE, 5);
                int many = 0;
                for (int across = 0; across <= 60; across++) {
                    many += all.below(across, up) == k ? 1 : 0;
                }
                Kit.due("fits(" + up + "), it was " + k, is.fits(up, 0), many);
                Kit.due("fits(" + up + "), it was not " + k, not.fits(up, 0), 61 - many);
            }
        }
        // Two that are so of no place, and the same one twice.
        StampMap x = three();
        x.seen(0, true);
        x.seen(0, true);
        Kit.due("told twice", x.fits(12, 0), 20);
        x.seen(1, true);
        Kit.due("two at once", x.fits(12, 0), 0);
    }

    private static void whollySwept() {
        Kit.says("of a point of a told height in the map as it was told, wholly swept, nothing CUT");
        StampMap x = three();
        int[] heights = {2, 12, 25};
        int[] fits = new int[3];
        x.seen(0, true);
        for (int i = 0; i < 3; i++) {
            fits[i] = x.fits(heights[i], 0);
        }
        Kit.due("fits(2, 0): a is nowhere", fits[0], 0);
        Kit.due("fits(12, 0)", fits[1], 20);
        Kit.due("fits(25, 0)", fits[2], 14);
        for (char act : "sscrsscrs".toCharArray()) {
            int done = act == 's' ? x.sweep() : act == 'c' ? x.cut(0) : x.raise(0);
            Kit.due("act " + act, done >= 0, true);
            for (int i = 0; i < 3; i++) {
                Kit.due("fits(" + heights[i] + ", 0) behind acts", x.fits(heights[i], 0), fits[i]);
            }
        }
        // Its right end is not of a SEGMENT; of two that begin at one point the steeper one is meant.
        x = Kit.told("seg a at 0 5 to 10 15;seg b at 0 5 to 10 5;");
        x.seen(0, true);
        Kit.due("fits(20, 0)", x.fits(20, 0), 10);
        Kit.due("fits(5, 0)", x.fits(5, 0), 1);
        Kit.due("sure(5, 0, 0)", x.sure(5, 0, 0), 0);
        x = Kit.told("seg a at 59 5 to 60 5;");
        x.seen(0, true);
        Kit.due("sure(5, 0, 0)", x.sure(5, 0, 0), 59);
        Kit.due("sure(5, 1, 0)", x.sure(5, 1, 0), 59);
        Kit.due("fits(4, 0)", x.fits(4, 0), 0);
    }

    private static void timeAtFirst() {
        Kit.says("is TOLD at a TIME (0 at first, goes on)");
        StampMap x = new StampMap();
        Kit.due("about(9)", x.about(9), 0);
        Kit.due("later(0)", x.later(0), 0);
        Kit.due("later(3)", x.later(3), 3);
        Kit.due("later(4)", x.later(4), 7);
        Kit.due("about(9)", x.about(9), 7);
        Kit.put(x, Kit.THREE);
        x.map();
        Kit.due("about(9) behind map()", x.about(9), 7);
        x.sweep();
        x.undo();
        Kit.due("about(9) behind undo()", x.about(9), 7);
    }

    private static void toldAt() {
        Kit.says("As known at k that counts that was TOLD at k or before, not UNTOLD at k or before.");
        StampMap x = three();
        x.seen(0, true);
        Kit.due("fits at -1, told at 0", x.fits(12, -1), 61);
        Kit.due("fits at 0, told at 0", x.fits(12, 0), 20);
        Kit.due("fits at 1, not come yet", x.fits(12, 1), 20);
        x = three();
        x.later(7);
        x.seen(0, true);
        Kit.due("fits at 6, told at 7", x.fits(12, 6), 61);
        Kit.due("fits at 7, told at 7", x.fits(12, 7), 20);
        Kit.due("fits at 8, told at 7", x.fits(12, 8), 20);
        Kit.due("fits at the least k", x.fits(12, Integer.MIN_VALUE), 61);
        Kit.due("fits at the greatest k", x.fits(12, Integer.MAX_VALUE), 20);
        Kit.due("sure at 6", x.sure(12, 1, 6), 60);
        Kit.due("sure at 7", x.sure(12, 1, 7), 19);
        Kit.due("ask at 6", x.ask(12, 1, 6), 41);
        Kit.due("ask at 7", x.ask(12, 1, 7), 20);
    }

    private static void untoldAt() {
        Kit.says("UNTOLD at a later one or the same");
        StampMap x = three();
        x.later(5);
        x.seen(0, true);
        x.seen(1, false);
        Kit.due("untell(0) at the same TIME", x.untell(0), true);
        for (int k = 0; k <= 6; k++) {
            Kit.due("fits at " + k, x.fits(25, k), k < 5 ? 61 : 55);
        }
        x.later(3);
        Kit.due("untell(1) at a later one", x.untell(1), true);
        int[] fits = {61, 61, 61, 61, 61, 55, 55, 55, 61, 61};
        for (int k = 0; k <= 9; k++) {
            Kit.due("fits at " + k + " behind both", x.fits(25, k), fits[k]);
        }
        Kit.due("about(8)", x.about(8), 2);
    }

    private static void untellRefused() {
        Kit.says("It is UNTOLD: true; false if it is so already, or there is none such.");
        StampMap x = Kit.rich();
        Kit.due("untell(1)", x.untell(1), true);
        Kit.due("untell(1) again", x.untell(1), false);
        x.later(1);
        Kit.due("untell(1) later", x.untell(1), false);
        Kit.refused("untell(0) already", Kit::rich, y -> y.untell(0) ? 1 : 0, 0);
        Kit.refused("untell(2), none such", Kit::rich, y -> y.untell(2) ? 1 : 0, 0);
        Kit.refused("untell(-1)", Kit::rich, y -> y.untell(-1) ? 1 : 0, 0);
        for (int far : FAR) {
            Kit.due("untell(" + far + ")", Kit.rich().untell(far), false);
        }
        Kit.due("untell(29)", full().untell(29), true);
        Kit.due("untell(30)", full().untell(30), false);
        Kit.due("untell(0) of a new object", new StampMap().untell(0), false);
        // Untold a second time, later, it is untold at the first one's TIME still.
        x = three();
        x.seen(0, true);
        x.later(2);
        x.untell(0);
        x.later(2);
        x.untell(0);
        Kit.due("fits at 1", x.fits(12, 1), 20);
        Kit.due("fits at 2", x.fits(12, 2), 61);
        Kit.due("fits at 3", x.fits(12, 3), 61);
    }

    private static void later() {
        Kit.says("So much later (0 .. 1000): the TIME");
        StampMap x = Kit.rich();
        Kit.due("later(0)", x.later(0), 10);
        Kit.due("later(1)", x.later(1), 11);
        Kit.due("later(1000)", x.later(1000), 1011);
        Kit.due("about(9)", x.about(9), 1011);
        Kit.refused("later(0)", Kit::rich, y -> y.later(0), 10);
    }

    private static void laterRefused() {
        Kit.says("the TIME; NONE, doing nothing, for another number, or if it would be above 100,000.");
        Kit.refused("later(-1)", Kit::rich, x -> x.later(-1), -1);
        Kit.refused("later(1001)", Kit::rich, x -> x.later(1001), -1);
        Kit.due("later(1000)", Kit.rich().later(1000), 1010);
        int[] no = {-1, -2, -1000, 1001, 1002, 100000, Integer.MIN_VALUE, Integer.MAX_VALUE};
        for (int by : no) {
            StampMap x = Kit.rich();
            Kit.due("later(" + by + ")", x.later(by), -1);
            Kit.due("about(9)", x.about(9), 10);
        }
    }

    private static StampMap late(int last) {
        StampMap x = three();
        for (int i = 0; i < 99; i++) {
            x.later(1000);
        }
        x.later(last);
        x.seen(0, true);
        return x;
    }

    private static void latest() {
        Kit.says("or if it would be above 100,000.");
        Kit.due("later(1000) to 100000", late(0).later(1000), 100000);
        Kit.due("later(1) to 100000", late(999).later(1), 100000);
        Kit.due("later(0) at 100000", late(1000).later(0), 100000);
        Kit.refused("later(2) to 100001", () -> late(999), x -> x.later(2), -1);
        Kit.refused("later(1) to 100001", () -> late(1000), x -> x.later(1), -1);
        Kit.refused("later(1000) to 100001", () -> late(1), x -> x.later(1000), -1);
        StampMap x = late(1000);
        Kit.due("fits at 99999", x.fits(12, 99999), 61);
        Kit.due("fits at 100000", x.fits(12, 100000), 20);
        Kit.due("untell(0)", x.untell(0), true);
        Kit.due("fits at 100000, untold", x.fits(12, 100000), 61);
    }

    private static void fits() {
        Kit.says("FITS (a height -9 .. 99): how many");
        StampMap x = three();
        for (int up = -9; up <= 99; up++) {
            Kit.due("fits(" + up + ", 0) of nothing told", x.fits(up, 0), 61);
        }
        x.seen(0, true);
        x.seen(2, false);
        Kit.due("fits(-9, 0)", x.fits(-9, 0), 0);
        Kit.due("fits(9, 0)", x.fits(9, 0), 0);
        Kit.due("fits(10, 0)", x.fits(10, 0), 20);
        Kit.due("fits(99, 0): not where b is", x.fits(99, 0), 10);
        Kit.due("fits(19, 0)", x.fits(19, 0), 20);
        Kit.due("fits(20, 0)", x.fits(20, 0), 19);
    }

    private static void fitsRefused() {
        Kit.says("how many; NONE for another height.");
        StampMap x = three();
        for (int up : NO_HEIGHTS) {
            Kit.due("fits(" + up + ", 0)", x.fits(up, 0), -1);
            Kit.due("fits(" + up + ", 5)", new StampMap().fits(up, 5), -1);
        }
        Kit.due("fits(-9, 0)", x.fits(-9, 0), 61);
        Kit.due("fits(99, 0)", x.fits(99, 0), 61);
        Kit.refused("fits(100, 0)", Kit::rich, y -> y.fits(100, 0), -1);
        Kit.refused("fits(12, 0)", Kit::rich, y -> y.fits(12, 0), 61);
    }

    private static void sure() {
        Kit.says("The least of FITS (what 0), the greatest (1)");
        StampMap x = three();
        Kit.due("sure(25, 0, 0) of nothing told", x.sure(25, 0, 0), 0);
        Kit.due("sure(25, 1, 0) of nothing told", x.sure(25, 1, 0), 60);
        x.seen(1, true);
        // b is at 20 at 5, at 25 at 10: up to there it is no farther up than 25.
        Kit.due("sure(25, 0, 0)", x.sure(25, 0, 0), 5);
        Kit.due("sure(25, 1, 0)", x.sure(25, 1, 0), 10);
        Kit.due("sure(20, 0, 0): one alone", x.sure(20, 0, 0), 5);
        Kit.due("sure(20, 1, 0): one alone", x.sure(20, 1, 0), 5);
        Kit.due("fits(20, 0)", x.fits(20, 0), 1);
        Kit.due("sure(29, 1, 0)", x.sure(29, 1, 0), 14);
        Kit.due("sure(99, 1, 0)", x.sure(99, 1, 0), 14);
    }

    private static void sureRefused() {
        Kit.says("the greatest (1); NONE if none FITS, for another height or what.");
        StampMap x = three();
        x.seen(1, true);
        Kit.due("sure(19, 0, 0), none FITS", x.sure(19, 0, 0), -1);
        Kit.due("sure(19, 1, 0), none FITS", x.sure(19, 1, 0), -1);
        Kit.due("sure(20, 0, 0)", x.sure(20, 0, 0), 5);
        for (int up : NO_HEIGHTS) {
            Kit.due("sure(" + up + ", 0, 0)", x.sure(up, 0, 0), -1);
            Kit.due("sure(" + up + ", 1, 0)", x.sure(up, 1, 0), -1);
        }
        Kit.due("sure(20, 2, 0)", x.sure(20, 2, 0), -1);
        for (int far : FAR) {
            Kit.due("sure(20, " + far + ", 0)", x.sure(20, far, 0), -1);
        }
        Kit.refused("sure(12, 2, 0)", Kit::rich, y -> y.sure(12, 2, 0), -1);
    }

    private static void ask() {
        Kit.says("ASK: the SEGMENT of which to know whether it is the REGION would leave the fewest of these at the most");
        StampMap x = three();
        // At 12 up: a 20 times, none 41 times, b and c never.
        Kit.due("ask(12, 0, 0)", x.ask(12, 0, 0), 0);
        Kit.due("ask(12, 1, 0)", x.ask(12, 1, 0), 41);
        // At 3 up: c from 7 to 9.
        Kit.due("ask(3, 0, 0)", x.ask(3, 0, 0), 2);
        Kit.due("ask(3, 1, 0)", x.ask(3, 1, 0), 58);
        // Of a alone it is known: whether it is a would leave all.
        x.seen(0, true);
        Kit.due("ask(12, 0, 0), a is known", x.ask(12, 0, 0), 0);
        Kit.due("ask(12, 1, 0), a is known", x.ask(12, 1, 0), 20);
        // One that is asked halves what is left: 30 of 60, 31 of 61.
        x = Kit.told("seg a at 0 5 to 10 5;seg b at 10 5 to 40 5;seg c at 40 5 to 60 5;");
        Kit.due("ask(5, 0, 0)", x.ask(5, 0, 0), 1);
        Kit.due("ask(5, 1, 0)", x.ask(5, 1, 0), 31);
        x = Kit.told("seg a at 0 5 to 30 5;seg b at 30 5 to 60 5;");
        Kit.due("ask(5, 1, 0)", x.ask(5, 1, 0), 31);
        x.seen(-1, false);
        Kit.due("ask(5, 1, 0), it was one", x.ask(5, 1, 0), 30);
    }

    private static void askFirst() {
        Kit.says("would leave the fewest of these at the most; of like ones the first.");
        StampMap x = three();
        Kit.due("ask(-9, 0, 0): none is ever", x.ask(-9, 0, 0), 0);
        Kit.due("ask(-9, 1, 0)", x.ask(-9, 1, 0), 61);
        x = Kit.told("seg a at 0 5 to 20 5;seg b at 20 5 to 40 5;seg c at 40 5 to 60 5;");
        Kit.due("ask(5, 0, 0) of like ones", x.ask(5, 0, 0), 0);
        x.seen(0, false);
        Kit.due("ask(5, 0, 0), not a", x.ask(5, 0, 0), 1);
        Kit.due("ask(5, 1, 0), not a", x.ask(5, 1, 0), 21);
        // More than half is as far from half as less: b leaves 40 of 61, so does a.
        x = Kit.told("seg a at 0 5 to 21 5;seg b at 21 5 to 60 5;");
        Kit.due("ask(5, 0, 0): 40 of a, 39 of b", x.ask(5, 0, 0), 1);
        Kit.due("ask(5, 1, 0)", x.ask(5, 1, 0), 39);
        x = Kit.told("seg a at 0 5 to 22 5;seg b at 22 5 to 60 5;seg c at 0 1 to 1 1;");
        Kit.due("ask(5, 0, 0): 39 of a, 38 of b", x.ask(5, 0, 0), 1);
        x = Kit.told("seg a at 0 5 to 20 5;seg b at 20 5 to 60 5;");
        x.seen(-1, false);
        Kit.due("ask(5, 0, 0): 40 of both", x.ask(5, 0, 0), 0);
        Kit.due("ask(5, 1, 0)", x.ask(5, 1, 0), 40);
    }

    private static void askRefused() {
        Kit.says("1: how many are left at the most; NONE if none FITS, there are no SEGMENTS, for another height or what.");
        StampMap x = three();
        for (int what = 0; what < 2; what++) {
            for (int up : NO_HEIGHTS) {
                Kit.due("ask(" + up + ", " + what + ", 0)", x.ask(up, what, 0), -1);
            }
            Kit.due("ask without SEGMENTS", new StampMap().ask(12, what, 0), -1);
        }
        Kit.due("ask(12, 2, 0)", x.ask(12, 2, 0), -1);
        for (int far : FAR) {
            Kit.due("ask(12, " + far + ", 0)", x.ask(12, far, 0), -1);
        }
        x.seen(0, true);
        Kit.due("ask(9, 0, 0), none FITS", x.ask(9, 0, 0), -1);
        Kit.due("ask(9, 1, 0), none FITS", x.ask(9, 1, 0), -1);
        Kit.due("ask(10, 0, 0)", x.ask(10, 0, 0), 0);
        Kit.due("ask(-9, 0, -1)", x.ask(-9, 0, -1), 0);
        x = Kit.told("seg a at 59 5 to 60 5;");
        x.seen(0, true);
        Kit.due("ask(5, 1, 0), one FITS", x.ask(5, 1, 0), 1);
        x.seen(0, false);
        Kit.due("ask(5, 1, 0), none FITS", x.ask(5, 1, 0), -1);
        Kit.refused("ask(12, 2, 0)", Kit::rich, y -> y.ask(12, 2, 0), -1);
        Kit.refused("ask(12, 0, 0)", Kit::rich, y -> y.ask(12, 0, 0), 0);
    }

    private static void mapForgets() {
        Kit.says("nothing is SEEN, nothing lies there, BOXES are empty then; the TIME stays");
        StampMap x = full();
        x.end(0);
        Kit.put(x, Kit.EIGHT);
        Kit.due("map()", x.map(), 8);
        Kit.due("about(8)", x.about(8), 0);
        Kit.due("about(9)", x.about(9), 10);
        Kit.due("fits(5, 10)", x.fits(5, 10), 61);
        Kit.due("untell(0)", x.untell(0), false);
        // The first that was told was so, at 5, and was untold at 8; this one is not so, at 10.
        Kit.due("seen(7, false)", x.seen(7, false), 0);
        Kit.due("fits(9, 9), told at 10", x.fits(9, 9), 61);
        Kit.due("fits(9, 10), told at 10", x.fits(9, 10), 1);
        Kit.due("untell(0)", x.untell(0), true);
        Kit.due("fits(9, 10), untold at 10", x.fits(9, 10), 61);
        Kit.due("seen(7, true)", x.seen(7, true), 1);
        x.end(0);
        Kit.put(x, "slots 9;");
        x.map();
        Kit.due("about(8) behind a fault", x.about(8), 2);
        Kit.due("fits(9, 10) behind a fault", x.fits(9, 10), 60);
    }
}
