/**
 * The document from "==== 3." on, with promises 20 to 26 and 39 to 46: points, and the map as far as
 * it is swept; each sentence that names a boundary, on both of its sides.
 */
public final class PointBoundsTest {
    private static final int[][] NO_POINTS = {{-1, 5}, {61, 5}, {7, -10}, {7, 100}, {10, 5}, {60, 5}, {-1, -10},
        {Integer.MIN_VALUE, 0}, {Integer.MAX_VALUE, 0}, {0, Integer.MIN_VALUE}, {0, Integer.MAX_VALUE}};
    private static final int[] NO_SEGMENTS = {-2, 3, 4, 8, 31, Integer.MIN_VALUE, Integer.MAX_VALUE};
    private static final int[] FAR = {-1, -100, 100, Integer.MIN_VALUE, Integer.MAX_VALUE};

    public static void main(String[] args) {
        versionOfPlace();
        likePlaces();
        swept();
        allSwept();
        pointAcross();
        pointUp();
        below();
        above();
        belowAndAboveAtOnePoint();
        belowRefused();
        aboveRefused();
        on();
        onRefused();
        depth();
        depthRefused();
        gap();
        lowestTerms();
        gapRefused();
        crossed();
        crossedRefused();
        same();
        sameRefused();
        sight();
        sightRefused();
        trapezes();
        trapezesWiderThanNone();
        trapezesToNextEvent();
        area();
        areaSwept();
        areaRefused();
        largest();
        hidden();
        hiddenFirst();
        hiddenRefused();
        next();
        lies();
        liesStill();
        nothingIsDone();
        Kit.tell("points and regions");
    }

    private static StampMap three() {
        return Kit.swept(Kit.THREE, 2);
    }

    // ---- points ----

    private static void versionOfPlace() {
        Kit.says("The VERSION of a place across: the newest of those whose place is no farther.");
        StampMap x = Kit.swept("seg a at 3 10 to 20 10;seg b at 8 20 to 14 20;seg c at 14 30 to 20 30;", 4);
        int[] places = {0, 2, 3, 7, 8, 13, 14, 19, 20, 21, 60};
        int[] found = {-1, -1, 0, 0, 1, 1, 2, 2, -1, -1, -1};
        for (int i = 0; i < places.length; i++) {
            Kit.due("below(" + places[i] + ", 99)", x.below(places[i], 99), found[i]);
            Kit.due("crossed(" + places[i] + ", -9)", x.crossed(places[i], -9),
                places[i] < 3 || places[i] >= 20 ? 0 : places[i] < 8 ? 1 : 2);
        }
    }

    private static void likePlaces() {
        Kit.says("the newest of those whose place is no farther");
        StampMap x = three();
        Kit.due("below(5, 40)", x.below(5, 40), 1);
        x.cut(1);
        Kit.due("below(5, 40) of the cut", x.below(5, 40), 0);
        Kit.due("below(9, 40) of the cut", x.below(9, 40), 0);
        Kit.due("below(4, 40) ahead of it", x.below(4, 40), 0);
        x.cut(0);
        Kit.due("below(5, 40) of the second cut", x.below(5, 40), 2);
        Kit.due("below(4, 40) ahead of both", x.below(4, 40), 0);
        x.raise(1);
        Kit.due("below(5, 40) of the raise", x.below(5, 40), 1);
        x.sweep();
        Kit.due("below(9, 40), not the newest of all", x.below(9, 40), 1);
        Kit.due("below(9, 4), not the newest of all", x.below(9, 4), 2);
        Kit.due("below(10, 4)", x.below(10, 4), -1);
    }

    private static void swept() {
        Kit.says("A place is SWEPT if it is ahead of the next EVENT");
        int[] events = {3, 8, 14, 20};
        for (int many = 0; many < 4; many++) {
            StampMap x = Kit.swept("seg a at 3 10 to 20 10;seg b at 8 20 to 14 20;", many);
            int next = events[many];
            Kit.due("next()", x.next(), next);
            Kit.due("crossed ahead of the next EVENT", x.crossed(next - 1, -9) >= 0, true);
            Kit.due("crossed at the next EVENT", x.crossed(next, -9), -2);
            Kit.due("crossed behind the next EVENT", x.crossed(next + 1, -9), -2);
            Kit.due("crossed at 60", x.crossed(60, -9), -2);
            Kit.due("crossed at 0", x.crossed(0, -9), 0);
        }
        StampMap x = Kit.told("seg a at 0 0 to 1 0;");
        Kit.due("crossed(0, 0), no place is SWEPT", x.crossed(0, 0), -2);
        x.sweep();
        Kit.due("crossed(0, 0)", x.crossed(0, 0), 0);
        Kit.due("crossed(1, 0)", x.crossed(1, 0), -2);
        x = Kit.swept("seg a at 59 9 to 60 9;", 1);
        Kit.due("crossed(59, 0)", x.crossed(59, 0), 1);
        Kit.due("crossed(60, 0), the next EVENT", x.crossed(60, 0), -2);
        x.sweep();
        Kit.due("crossed(60, 0)", x.crossed(60, 0), 0);
        x.undo();
        Kit.due("crossed(60, 0), undone", x.crossed(60, 0), -2);
    }

    private static void allSwept() {
        Kit.says("(all are, if there is none)");
        StampMap x = Kit.swept("seg a at 0 0 to 9 0;", 2);
        for (int across = 0; across <= 60; across++) {
            Kit.due("below(" + across + ", 5)", x.below(across, 5), across < 9 ? 0 : -1);
        }
        Kit.due("below(61, 5)", x.below(61, 5), -2);
        Kit.due("below(60, 5) without SEGMENTS", new StampMap().below(60, 5), -1);
        Kit.due("below(60, 5), the last one not swept", Kit.swept("seg a at 0 0 to 9 0;", 1).below(60, 5), -2);
    }

    private static void pointAcross() {
        Kit.says("A point (0 .. 60 across, SWEPT; -9 .. 99 up)");
        StampMap x = Kit.swept(Kit.THREE, 5);
        int[] acrosses = {-1, 0, 60, 61};
        for (int across : acrosses) {
            boolean is = across >= 0 && across <= 60;
            Kit.due("below(" + across + ", 0)", x.below(across, 0), is ? -1 : -2);
            Kit.due("above(" + across + ", 50)", x.above(across, 50), is ? -1 : -2);
            Kit.due("on(" + across + ", 0)", x.on(across, 0), is ? 0 : -2);
            Kit.due("depth(" + across + ", 0)", x.depth(across, 0), is ? across == 0 ? 1 : 0 : -2);
            Kit.due("crossed(" + across + ", 50)", x.crossed(across, 50), is ? 0 : -2);
            Kit.due("gap(" + across + ", 12, 0)", x.gap(across, 12, 0), across == 0 ? 2 : -1);
            Kit.due("same(" + across + ", 0, 1, 0)", x.same(across, 0, 1, 0), is ? 1 : -2);
            Kit.due("same(1, 0, " + across + ", 0)", x.same(1, 0, across, 0), is ? 1 : -2);
        }
    }

    private static void pointUp() {
        Kit.says("-9 .. 99 up)");
        StampMap x = three();
        int[] ups = {-10, -9, -8, 98, 99, 100};
        for (int up : ups) {
            boolean is = up >= -9 && up <= 99;
            boolean low = up < 0;
            Kit.due("below(7, " + up + ")", x.below(7, up), is ? low ? -1 : 1 : -2);
            Kit.due("above(7, " + up + ")", x.above(7, up), is ? low ? 2 : -1 : -2);
            Kit.due("on(7, " + up + ")", x.on(7, up), is ? 0 : -2);
            Kit.due("depth(7, " + up + ")", x.depth(7, up), is ? 2 : -2);
            Kit.due("crossed(7, " + up + ")", x.crossed(7, up), is ? low ? 3 : 0 : -2);
            Kit.due("gap(7, " + up + ", " + (low ? 2 : 0) + ")", x.gap(7, up, low ? 2 : 0),
                is ? low ? 3 - up : up - 22 : -1);
            Kit.due("same(7, " + up + ", 7, " + up + ")", x.same(7, up, 7, up), is ? 1 : -2);
        }
    }

    private static void below() {
        Kit.says("BELOW it is the HIGHEST SEGMENT IN that is no farther up there");
        StampMap x = three();
        // At 7: c at 3, a at 10, b at 22.
        int[] ups = {2, 3, 4, 9, 10, 11, 21, 22, 23};
        int[] found = {-1, 2, 2, 2, 0, 0, 0, 1, 1};
        for (int i = 0; i < ups.length; i++) {
            Kit.due("below(7, " + ups[i] + ")", x.below(7, ups[i]), found[i]);
        }
        // Between whole heights: at 1 a is half a step up.
        x = Kit.swept("seg a at 0 0 to 2 1;seg b at 0 60 to 60 59;", 1);
        Kit.due("below(1, 0)", x.below(1, 0), -1);
        Kit.due("below(1, 1)", x.below(1, 1), 0);
        Kit.due("below(1, 59)", x.below(1, 59), 0);
        Kit.due("below(1, 60)", x.below(1, 60), 1);
        Kit.due("below(0, 60)", x.below(0, 60), 1);
        // Not IN is not BELOW.
        x = three();
        x.cut(0);
        Kit.due("below(7, 10) when a is cut", x.below(7, 10), 2);
    }

    private static void above() {
        Kit.says("ABOVE it the lowest one that is farther up.");
        StampMap x = three();
        int[] ups = {2, 3, 4, 9, 10, 11, 21, 22, 23};
        int[] found = {2, 0, 0, 0, 1, 1, 1, -1, -1};
        for (int i = 0; i < ups.length; i++) {
            Kit.due("above(7, " + ups[i] + ")", x.above(7, ups[i]), found[i]);
        }
        x = Kit.swept("seg a at 0 0 to 2 1;seg b at 0 60 to 60 59;", 1);
        Kit.due("above(1, 0)", x.above(1, 0), 0);
        Kit.due("above(1, 1)", x.above(1, 1), 1);
        Kit.due("above(1, 59)", x.above(1, 59), 1);
        Kit.due("above(1, 60)", x.above(1, 60), -1);
        x = three();
        x.cut(0);
        Kit.due("above(7, 9) when a is cut", x.above(7, 9), 1);
    }

    private static void belowAndAboveAtOnePoint() {
        Kit.says("BELOW it is the HIGHEST SEGMENT IN that is no farther up there; ABOVE it the lowest one that is farther up.");
        StampMap x = Kit.swept("seg a at 0 10 to 20 20;seg b at 0 10 to 20 0;seg c at 0 10 to 20 10;", 1);
        Kit.due("below(0, 10)", x.below(0, 10), 0);
        Kit.due("above(0, 10)", x.above(0, 10), -1);
        Kit.due("below(0, 9)", x.below(0, 9), -1);
        Kit.due("above(0, 9)", x.above(0, 9), 1);
        Kit.due("crossed(0, 9)", x.crossed(0, 9), 3);
        Kit.due("crossed(0, 10)", x.crossed(0, 10), 0);
        Kit.due("below(1, 10)", x.below(1, 10), 2);
        Kit.due("above(1, 10)", x.above(1, 10), 0);
        x.cut(0);
        Kit.due("below(0, 10), a cut", x.below(0, 10), 2);
    }

    private static void belowRefused() {
        Kit.says("BELOW; NONE if there is none; -2 if the point can't be.");
        StampMap x = three();
        Kit.due("below(9, 1)", x.below(9, 1), 2);
        Kit.due("below(9, 0)", x.below(9, 0), -1);
        for (int[] p : NO_POINTS) {
            Kit.due("below(" + p[0] + ", " + p[1] + ")", x.below(p[0], p[1]), -2);
        }
        Kit.refused("below(10, 5)", Kit::rich, y -> y.below(10, 5), -2);
        Kit.refused("below(7, 100)", Kit::rich, y -> y.below(7, 100), -2);
    }

    private static void aboveRefused() {
        Kit.says("ABOVE; likewise.");
        StampMap x = three();
        Kit.due("above(9, 23)", x.above(9, 23), 1);
        Kit.due("above(9, 24)", x.above(9, 24), -1);
        for (int[] p : NO_POINTS) {
            Kit.due("above(" + p[0] + ", " + p[1] + ")", x.above(p[0], p[1]), -2);
        }
        Kit.refused("above(10, 5)", Kit::rich, y -> y.above(10, 5), -2);
        Kit.refused("above(7, -10)", Kit::rich, y -> y.above(7, -10), -2);
    }

    private static void on() {
        Kit.says("ON it is, if that is just as far up there.");
        StampMap x = three();
        for (int up = 0; up <= 30; up++) {
            Kit.due("on(7, " + up + ")", x.on(7, up), up == 3 || up == 10 || up == 22 ? 1 : 0);
        }
        x = Kit.swept("seg a at 0 0 to 2 1;", 1);
        Kit.due("on(0, 0)", x.on(0, 0), 1);
        Kit.due("on(1, 0)", x.on(1, 0), 0);
        Kit.due("on(1, 1)", x.on(1, 1), 0);
        x.sweep();
        // Its right end is not of a: it is not over that place.
        Kit.due("on(2, 1)", x.on(2, 1), 0);
        // A slope by thirds is on whole heights at every third place.
        x = Kit.swept("seg a at 0 0 to 60 20;", 1);
        for (int across = 0; across < 60; across++) {
            Kit.due("on(" + across + ")", x.on(across, across / 3), across % 3 == 0 ? 1 : 0);
        }
    }

    private static void onRefused() {
        Kit.says("ON: 1, 0; -2 if the point can't be.");
        StampMap x = three();
        Kit.due("on(9, 10)", x.on(9, 10), 1);
        for (int[] p : NO_POINTS) {
            Kit.due("on(" + p[0] + ", " + p[1] + ")", x.on(p[0], p[1]), -2);
        }
        Kit.due("on(10, 10)", x.on(10, 10), -2);
        Kit.refused("on(10, 10)", Kit::rich, y -> y.on(10, 10), -2);
    }

    private static void depth() {
        Kit.says("to the left of one that is farther up there, else to the right, till there is none.");
        StampMap x = three();
        Kit.due("depth(7, 9)", x.depth(7, 9), 2);
        Kit.dueLying("depth(7, 9)", x, 0, 2);
        Kit.due("depth(7, 10), on it: to the right", x.depth(7, 10), 2);
        Kit.dueLying("depth(7, 10)", x, 0, 1);
        Kit.due("depth(4, 10)", x.depth(4, 10), 1);
        Kit.dueLying("depth(4, 10)", x, 0);
        // By a hair: a is a sixtieth farther up than 0 at 1, and as much lower than 1 at 59.
        x = Kit.swept("seg a at 0 0 to 60 1;seg b at 0 2 to 60 2;weighs 9-number;", 1);
        Kit.due("depth(1, 0)", x.depth(1, 0), 1);
        Kit.dueLying("depth(1, 0)", x, 0);
        Kit.due("depth(0, 0)", x.depth(0, 0), 2);
        Kit.due("depth(59, 1)", x.depth(59, 1), 2);
        Kit.dueLying("depth(59, 1)", x, 0, 1);
        x = Kit.swept(Kit.EIGHT + "weighs number;", 1);
        for (int up = -1; up <= 9; up++) {
            // h on top at 8, each other left of the next: down to the first that is not farther up.
            int looked = up < 1 ? 8 : up > 8 ? 1 : 9 - up;
            Kit.due("depth(30, " + up + ")", x.depth(30, up), looked);
            Kit.due("the last looked at", x.lies(looked - 1), 8 - looked);
        }
        x.sweep();
        Kit.due("depth(60, 5) of an empty TREE", x.depth(60, 5), 0);
        Kit.dueLying("depth(60, 5)", x);
    }

    private static StampMap noneLies() {
        StampMap x = Kit.rich();
        x.row(0);
        return x;
    }

    private static void depthRefused() {
        Kit.says("DEPTH; -2 if the point can't be. SEGMENTS of the NODES looked at lie there then, in order "
                + "(behind -2: nothing).");
        StampMap x = three();
        for (int[] p : NO_POINTS) {
            Kit.due("row(2)", x.row(2), 3);
            Kit.due("depth(" + p[0] + ", " + p[1] + ")", x.depth(p[0], p[1]), -2);
            Kit.dueLying("depth of no point", x);
        }
        Kit.refused("depth(10, 5)", Kit::rich, PointBoundsTest::noneLies, y -> y.depth(10, 5), -2);
        Kit.refused("depth(61, 5)", Kit::rich, PointBoundsTest::noneLies, y -> y.depth(61, 5), -2);
        Kit.due("depth(9, 5)", x.depth(9, 5), 2);
    }

    // ---- how far ----

    private static void dueGap(StampMap x, int across, int up, int... parts) {
        for (int what = 0; what < 4; what++) {
            Kit.due("gap(" + across + ", " + up + ", " + what + ")", x.gap(across, up, what), parts[what]);
        }
    }

    private static void gap() {
        Kit.says("How far a point is above the SEGMENT BELOW it (what 0: upper, 1: lower part), below that ABOVE it (2, 3), "
                + "straight up");
        StampMap x = three();
        dueGap(x, 7, 2, -1, -1, 1, 1);
        dueGap(x, 7, 3, 0, 1, 7, 1);
        dueGap(x, 7, 12, 2, 1, 10, 1);
        dueGap(x, 7, 22, 0, 1, -1, -1);
        dueGap(x, 7, 99, 77, 1, -1, -1);
        dueGap(x, 7, -9, -1, -1, 12, 1);
        x = Kit.swept("seg a at 0 10 to 7 13;seg b at 0 30 to 6 20;", 1);
        dueGap(x, 2, 12, 8, 7, 44, 3);
        dueGap(x, 2, 10, -1, -1, 6, 7);
        dueGap(x, 2, 27, 1, 3, -1, -1);
        dueGap(x, 3, 25, 0, 1, -1, -1);
    }

    private static void lowestTerms() {
        Kit.says("in lowest terms (0 of 1)");
        StampMap x = Kit.swept("seg a at 0 0 to 60 40;seg b at 0 60 to 48 60;", 1);
        // a is at across * 2 / 3.
        dueGap(x, 0, 0, 0, 1, 60, 1);
        dueGap(x, 1, 1, 1, 3, 59, 1);
        dueGap(x, 2, 2, 2, 3, 58, 1);
        dueGap(x, 3, 2, 0, 1, 58, 1);
        dueGap(x, 4, 5, 7, 3, 55, 1);
        dueGap(x, 1, 0, -1, -1, 2, 3);
        dueGap(x, 45, 60, 0, 1, -1, -1);
        x = Kit.swept("seg a at 0 0 to 59 60;", 1);
        dueGap(x, 1, 2, 58, 59, -1, -1);
        dueGap(x, 58, 99, 99 * 59 - 58 * 60, 59, -1, -1);
        // A point of the end is a hair beside it.
        dueGap(x, 58, 58, -1, -1, 58, 59);
        dueGap(x, 58, 59, 1, 59, -1, -1);
    }

    private static void gapRefused() {
        Kit.says("in lowest terms (0 of 1); NONE if there is none such, it can't be, or for another what.");
        StampMap x = three();
        for (int what = 0; what < 4; what++) {
            Kit.due("gap(7, 12, " + what + ")", x.gap(7, 12, what) > 0, true);
            for (int[] p : NO_POINTS) {
                Kit.due("gap(" + p[0] + ", " + p[1] + ", " + what + ")", x.gap(p[0], p[1], what), -1);
            }
        }
        Kit.due("gap(7, 12, 4)", x.gap(7, 12, 4), -1);
        for (int far : FAR) {
            Kit.due("gap(7, 12, " + far + ")", x.gap(7, 12, far), -1);
        }
        Kit.refused("gap(7, 12, 4)", Kit::rich, y -> y.gap(7, 12, 4), -1);
        Kit.refused("gap(10, 12, 0)", Kit::rich, y -> y.gap(10, 12, 0), -1);
        Kit.refused("gap(7, 0, 0)", Kit::rich, y -> y.gap(7, 0, 0), -1);
        Kit.refused("gap(7, 40, 2)", Kit::rich, y -> y.gap(7, 40, 2), -1);
    }

    private static void crossed() {
        Kit.says("How many SEGMENTS IN its VERSION are farther up; -2 if the point can't be.");
        StampMap x = three();
        int[] ups = {-9, 2, 3, 9, 10, 21, 22, 99};
        int[] many = {3, 3, 2, 2, 1, 1, 0, 0};
        for (int i = 0; i < ups.length; i++) {
            Kit.due("crossed(7, " + ups[i] + ")", x.crossed(7, ups[i]), many[i]);
        }
        Kit.due("crossed(4, 0) in its VERSION", x.crossed(4, 0), 1);
        x.cut(0);
        Kit.due("crossed(7, 2), a cut", x.crossed(7, 2), 2);
        Kit.due("crossed(4, 0) in its VERSION", x.crossed(4, 0), 1);
        Kit.due("crossed(0, 0) of eight", Kit.swept(Kit.EIGHT, 1).crossed(0, 0), 8);
    }

    private static void crossedRefused() {
        Kit.says("are farther up; -2 if the point can't be.");
        StampMap x = three();
        Kit.due("crossed(9, 99)", x.crossed(9, 99), 0);
        for (int[] p : NO_POINTS) {
            Kit.due("crossed(" + p[0] + ", " + p[1] + ")", x.crossed(p[0], p[1]), -2);
        }
        Kit.refused("crossed(10, 0)", Kit::rich, y -> y.crossed(10, 0), -2);
    }

    private static void same() {
        Kit.says("Its REGION is the SEGMENT BELOW it, or none.");
        StampMap x = three();
        Kit.due("same(7, 10, 2, 99): both a", x.same(7, 10, 2, 99), 1);
        Kit.due("same(7, 10, 7, 9): a, c", x.same(7, 10, 7, 9), 0);
        Kit.due("same(7, 21, 7, 22): a, b", x.same(7, 21, 7, 22), 0);
        Kit.due("same(7, 2, 0, 9): both none", x.same(7, 2, 0, 9), 1);
        Kit.due("same(7, 2, 0, 10): none, a", x.same(7, 2, 0, 10), 0);
        Kit.due("same(0, 10, 7, 2): a, none", x.same(0, 10, 7, 2), 0);
        Kit.due("same(7, 3, 7, 3)", x.same(7, 3, 7, 3), 1);
        // Of one SEGMENT in two VERSIONS, though another lies between them across.
        Kit.due("same(0, 30, 9, 15)", x.same(0, 30, 9, 15), 1);
    }

    private static void sameRefused() {
        Kit.says("Whether two points are of one REGION: 1, 0; -2 if one can't be.");
        StampMap x = three();
        for (int[] p : NO_POINTS) {
            Kit.due("same(" + p[0] + ", " + p[1] + ", 7, 5)", x.same(p[0], p[1], 7, 5), -2);
            Kit.due("same(7, 5, " + p[0] + ", " + p[1] + ")", x.same(7, 5, p[0], p[1]), -2);
            Kit.due("same of no point and itself", x.same(p[0], p[1], p[0], p[1]), -2);
        }
        Kit.due("same(9, 5, 7, 5)", x.same(9, 5, 7, 5), 1);
        Kit.refused("same(10, 5, 7, 5)", Kit::rich, y -> y.same(10, 5, 7, 5), -2);
        Kit.refused("same(7, 5, 10, 5)", Kit::rich, y -> y.same(7, 5, 10, 5), -2);
    }

    // ---- the map as it was swept ----

    private static void sight() {
        Kit.says("SEGMENTS next HIGHER (what 0), next lower (1) to one in some VERSION, as bits");
        StampMap x = Kit.told(Kit.THREE);
        int[][] higher = {{0, 0, 0}, {0, 0, 0}, {2, 0, 1}, {2, 0, 1}};
        int[][] lower = {{0, 0, 0}, {0, 0, 0}, {4, 1, 0}, {4, 1, 0}};
        for (int stamp = 0; stamp <= 3; stamp++) {
            for (int k = 0; k < 3; k++) {
                Kit.due("sight(" + k + ", 0) at " + stamp, x.sight(k, 0), higher[stamp][k]);
                Kit.due("sight(" + k + ", 1) at " + stamp, x.sight(k, 1), lower[stamp][k]);
            }
            x.sweep();
        }
        x = three();
        x.cut(0);
        Kit.due("sight(2, 0), a cut", x.sight(2, 0), 3);
        Kit.due("sight(1, 1), a cut", x.sight(1, 1), 5);
        Kit.due("sight(0, 0) of what is cut", x.sight(0, 0), 2);
        x.undo();
        Kit.due("sight(2, 0), not cut", x.sight(2, 0), 1);
        x = Kit.swept(Kit.EIGHT, 1);
        for (int k = 0; k < 8; k++) {
            Kit.due("sight(" + k + ", 0) of eight", x.sight(k, 0), k < 7 ? 2 << k : 0);
            Kit.due("sight(" + k + ", 1) of eight", x.sight(k, 1), k > 0 ? 1 << k - 1 : 0);
        }
    }

    private static void sightRefused() {
        Kit.says("as bits; NONE if there is none such, or for another what.");
        StampMap x = three();
        for (int no : NO_SEGMENTS) {
            Kit.due("sight(" + no + ", 0)", x.sight(no, 0), -1);
            Kit.due("sight(" + no + ", 1)", x.sight(no, 1), -1);
        }
        Kit.due("sight(-1, 0)", x.sight(-1, 0), -1);
        Kit.due("sight(2, 1), nothing lower", x.sight(2, 1), 0);
        Kit.due("sight(0, 2)", x.sight(0, 2), -1);
        for (int far : FAR) {
            Kit.due("sight(0, " + far + ")", x.sight(0, far), -1);
        }
        Kit.refused("sight(3, 0)", Kit::rich, y -> y.sight(3, 0), -1);
        Kit.refused("sight(0, 2)", Kit::rich, y -> y.sight(0, 2), -1);
    }

    private static void trapezes() {
        Kit.says("TRAPEZES: each SEGMENT in each stretch of VERSIONS, one behind the other, as long as it is IN and what is "
                + "ABOVE it (next HIGHER, or none) is the same SEGMENT, or none, is one");
        StampMap x = Kit.told(Kit.THREE);
        int[] many = {0, 1, 4, 4, 5, 5};
        for (int stamp = 0; stamp <= 5; stamp++) {
            Kit.due("trapezes() at " + stamp, x.trapezes(), many[stamp]);
            x.sweep();
        }
        // What comes in below it does not end a stretch; what comes in above it does.
        x = Kit.swept("seg a at 0 10 to 60 10;seg b at 10 5 to 60 5;", 2);
        Kit.due("b below a", x.trapezes(), 2);
        x = Kit.swept("seg a at 0 10 to 60 10;seg b at 10 15 to 60 15;", 2);
        Kit.due("b above a", x.trapezes(), 3);
        x = Kit.swept("seg a at 0 10 to 60 10;seg c at 0 20 to 60 20;seg b at 10 30 to 60 30;", 2);
        Kit.due("b above what is above a", x.trapezes(), 4);
        // Gone and there again is another stretch, though the same is above it then.
        x = Kit.swept("seg a at 0 10 to 60 10;seg b at 0 15 to 10 15;seg c at 20 15 to 60 15;", 3);
        Kit.due("a below b, none, c; b, c", x.trapezes(), 5);
        x = Kit.swept("seg a at 0 10 to 60 10;seg b at 5 1 to 6 1;seg c at 8 1 to 9 1;", 2);
        x.cut(0);
        x.sweep();
        x.raise(0);
        x.sweep();
        Kit.due("a cut from 5 to 6: a, b, a, c", x.trapezes(), 4);
    }

    private static void trapezesWiderThanNone() {
        Kit.says("is one, if it is wider than 0");
        StampMap x = Kit.swept(Kit.THREE, 1);
        Kit.due("a till 5", x.trapezes(), 1);
        x.sweep();
        x.cut(1);
        Kit.due("b came and went at 5: a, a again, c", x.trapezes(), 3);
        x.cut(0);
        Kit.due("a went at 5, too", x.trapezes(), 2);
        x.raise(0);
        Kit.due("a went and came at 5: two stretches", x.trapezes(), 3);
        // From 0 to 1 is wide enough.
        x = Kit.swept("seg a at 0 0 to 1 0;", 1);
        Kit.due("a from 0 to 1", x.trapezes(), 1);
        x.cut(0);
        Kit.due("a from 0 to 0", x.trapezes(), 0);
        x.raise(0);
        Kit.due("a from 0 to 0, and from 0 to 1", x.trapezes(), 1);
    }

    private static void trapezesToNextEvent() {
        Kit.says("(its stretch goes from its first VERSION's place to that of the first one behind it, without one to the "
                + "next EVENT)");
        StampMap x = Kit.swept("seg a at 0 0 to 60 0;", 1);
        Kit.due("a to the next EVENT", x.trapezes(), 1);
        x.sweep();
        Kit.due("a to the VERSION behind it", x.trapezes(), 1);
        x = Kit.swept("seg a at 0 0 to 10 0;seg b at 10 0 to 60 0;seg c at 10 9 to 60 9;", 2);
        x.cut(2);
        Kit.due("a, b alone; c and b below it were no time there", x.trapezes(), 2);
        x.undo();
        Kit.due("a, b below c, c", x.trapezes(), 3);
        Kit.due("trapezes() of nothing", new StampMap().trapezes(), 0);
    }

    private static void area() {
        Kit.says("AREA of a SEGMENT: how many points (0 .. 60 across that are SWEPT, 0 .. 60 up) have it as their REGION; "
                + "of none (-1): how many have none.");
        // What lies on it is of it; all of the top row, and all of the ground.
        StampMap x = Kit.swept("seg a at 0 60 to 1 60;", 2);
        Kit.due("area(0) at the top", x.area(0), 1);
        Kit.due("area(-1)", x.area(-1), 3720);
        x = Kit.swept("seg a at 0 0 to 1 0;", 2);
        Kit.due("area(0) on the ground", x.area(0), 61);
        Kit.due("area(-1)", x.area(-1), 3660);
        x = Kit.swept("seg a at 0 30 to 60 30;", 2);
        Kit.due("area(0)", x.area(0), 60 * 31);
        Kit.due("area(-1), 60 across too", x.area(-1), 60 * 30 + 61);
        // Between whole heights it is of the next one up.
        x = Kit.swept("seg a at 0 0 to 2 1;seg b at 0 60 to 2 59;", 1);
        Kit.due("area(0)", x.area(0), 60 + 59);
        Kit.due("area(1)", x.area(1), 1 + 1);
        Kit.due("area(-1)", x.area(-1), 0 + 1);
    }

    private static void areaSwept() {
        Kit.says("(0 .. 60 across that are SWEPT, 0 .. 60 up)");
        StampMap x = Kit.told("seg a at 5 10 to 9 10;seg b at 5 10 to 9 20;");
        int[] atFirst = {5 * 61, 0, 0};
        int[] midst = new int[3];
        for (int across = 5; across < 9; across++) {
            for (int up = 0; up <= 60; up++) {
                boolean aboveB = (up - 10) * 4 >= (across - 5) * 10;
                midst[up < 10 ? 0 : aboveB ? 2 : 1]++;
            }
        }
        for (int k = -1; k < 2; k++) {
            Kit.due("area(" + k + ") at first", x.area(k), atFirst[k + 1]);
        }
        x.sweep();
        for (int k = -1; k < 2; k++) {
            Kit.due("area(" + k + ") in the midst", x.area(k), midst[k + 1] + atFirst[k + 1]);
        }
        x.sweep();
        Kit.due("area(0) behind all", x.area(0), midst[1]);
        Kit.due("area(1) behind all", x.area(1), midst[2]);
        Kit.due("area(-1) behind all", x.area(-1), 57 * 61 + midst[0]);
        // In the VERSIONS of the places: what is cut has those ahead alone.
        x = Kit.swept("seg a at 0 10 to 9 10;seg b at 5 20 to 9 20;", 2);
        x.cut(0);
        Kit.due("area(0), cut at 5", x.area(0), 5 * 51);
        Kit.due("area(-1), cut at 5", x.area(-1), 5 * 10 + 4 * 20);
    }

    private static void areaRefused() {
        Kit.says("AREA (segment NONE: of none); -2 if there is none such.");
        StampMap x = Kit.told(Kit.THREE);
        Kit.due("area(-1) of no place", x.area(-1), 0);
        Kit.due("area(2) of no place", x.area(2), 0);
        for (int no : NO_SEGMENTS) {
            Kit.due("area(" + no + ")", x.area(no), -2);
        }
        Kit.due("area(0) without SEGMENTS", new StampMap().area(0), -2);
        Kit.due("area(-1) without SEGMENTS", new StampMap().area(-1), 3721);
        Kit.refused("area(3)", Kit::rich, y -> y.area(3), -2);
        Kit.refused("area(-2)", Kit::rich, y -> y.area(-2), -2);
    }

    private static void largest() {
        Kit.says("The SEGMENT of the greatest AREA; of like ones the first; NONE without SEGMENTS.");
        Kit.due("largest() without SEGMENTS", new StampMap().largest(), -1);
        Kit.due("largest() of no AREA", Kit.told(Kit.THREE).largest(), 0);
        Kit.due("largest() of like ones", Kit.swept("seg a at 0 9 to 1 9;seg b at 1 9 to 2 9;", 3).largest(), 0);
        Kit.due("largest() of one more", Kit.swept("seg a at 0 9 to 1 9;seg b at 1 8 to 2 8;", 3).largest(), 1);
        Kit.due("largest() of one less", Kit.swept("seg a at 0 9 to 1 9;seg b at 1 10 to 2 10;", 3).largest(), 0);
        StampMap x = Kit.swept(Kit.EIGHT, 1);
        for (int k = 0; k < 8; k++) {
            Kit.due("area(" + k + ") of eight", x.area(k), k < 7 ? 60 : 60 * 53);
        }
        Kit.due("area(-1) of eight", x.area(-1), 60);
        Kit.due("area(8) of eight", x.area(8), -2);
        Kit.due("largest() of eight", x.largest(), 7);
        // None has more, but it is no SEGMENT.
        x = Kit.swept("seg a at 0 60 to 1 60;", 2);
        Kit.due("area(-1)", x.area(-1) > x.area(0), true);
        Kit.due("largest()", x.largest(), 0);
    }

    private static void dueHidden(StampMap x, int across, int up, int many) {
        Kit.due("hidden(2), asked first", x.hidden(2), many);
        Kit.due("hidden(1)", x.hidden(1), up);
        Kit.due("hidden(0)", x.hidden(0), across);
        Kit.due("hidden(1)", x.hidden(1), up);
        Kit.due("hidden(2)", x.hidden(2), many);
    }

    private static void hidden() {
        Kit.says("HIDDEN: the point (of 0 .. 60 across that are SWEPT, 0 .. 60 up) with the most SEGMENTS farther up there");
        StampMap x = Kit.told(Kit.THREE);
        int[][] points = {{0, 0, 1}, {5, 0, 3}, {5, 0, 3}, {5, 0, 3}, {5, 0, 3}};
        for (int[] p : points) {
            x.sweep();
            dueHidden(x, p[0], p[1], p[2]);
        }
        // One that lies on the ground is not farther up than it.
        dueHidden(Kit.swept("seg a at 0 0 to 10 0;", 1), 0, 0, 0);
        dueHidden(Kit.swept("seg a at 0 0 to 10 1;", 1), 1, 0, 1);
        dueHidden(Kit.swept("seg a at 0 1 to 10 0;", 1), 0, 0, 1);
        // What is not SWEPT is not looked at.
        dueHidden(Kit.told("seg a at 1 9 to 10 9;"), 0, 0, 0);
        dueHidden(Kit.swept("seg a at 1 9 to 10 9;seg b at 9 5 to 10 5;", 1), 1, 0, 1);
        dueHidden(Kit.swept("seg a at 1 9 to 10 9;seg b at 9 5 to 10 5;", 2), 9, 0, 2);
        dueHidden(new StampMap(), 0, 0, 0);
        x = Kit.swept("seg a at 59 9 to 60 9;", 2);
        dueHidden(x, 59, 0, 1);
    }

    private static void hiddenFirst() {
        Kit.says("with the most SEGMENTS farther up there; of like ones the first (by how far across, then up).");
        dueHidden(Kit.swept("seg a at 3 9 to 10 9;seg b at 10 9 to 20 9;", 3), 3, 0, 1);
        dueHidden(Kit.swept("seg a at 3 60 to 10 60;", 2), 3, 0, 1);
        dueHidden(Kit.swept("seg a at 7 9 to 10 9;seg b at 0 9 to 2 9;", 4), 0, 0, 1);
        StampMap x = Kit.swept("seg a at 7 9 to 10 9;seg b at 0 9 to 2 9;", 1);
        x.cut(1);
        x.sweep();
        x.sweep();
        dueHidden(x, 7, 0, 1);
    }

    private static void hiddenRefused() {
        Kit.says("2: how many; NONE if no place is SWEPT, or for another what.");
        StampMap x = Kit.told(Kit.THREE);
        for (int what = -1; what <= 3; what++) {
            Kit.due("hidden(" + what + ") of no place", x.hidden(what), -1);
        }
        x.sweep();
        for (int what = 0; what <= 2; what++) {
            Kit.due("hidden(" + what + ")", x.hidden(what) >= 0, true);
        }
        Kit.due("hidden(3)", x.hidden(3), -1);
        for (int far : FAR) {
            Kit.due("hidden(" + far + ")", x.hidden(far), -1);
        }
        Kit.due("hidden(2), first EVENT at 1", Kit.told("seg a at 1 0 to 2 0;").hidden(2), 0);
        Kit.due("hidden(2), first EVENT at 0", Kit.told("seg a at 0 0 to 2 0;").hidden(2), -1);
        Kit.refused("hidden(3)", Kit::rich, y -> y.hidden(3), -1);
        Kit.refused("hidden(0) of no place", () -> Kit.told(Kit.THREE), y -> y.hidden(0), -1);
    }

    private static void next() {
        Kit.says("The next EVENT; NONE if there is none.");
        StampMap x = Kit.told("seg a at 0 0 to 60 0;");
        Kit.due("next()", x.next(), 0);
        x.sweep();
        Kit.due("next()", x.next(), 60);
        x.cut(0);
        Kit.due("next(), though what ends there is cut", x.next(), 60);
        x.sweep();
        Kit.due("next() behind the last", x.next(), -1);
        x.undo();
        Kit.due("next() undone", x.next(), 60);
        Kit.due("next() of a new object", new StampMap().next(), -1);
        Kit.refused("next() of none", () -> Kit.swept(Kit.THREE, 5), StampMap::next, -1);
    }

    private static void lies() {
        Kit.says("The i-th number of what lies there; -2 if there is none such.");
        Kit.due("lies(0) of a new object", new StampMap().lies(0), -2);
        StampMap x = Kit.swept(Kit.EIGHT, 1);
        Kit.due("lies(0) ahead of all", x.lies(0), -2);
        x.row(1);
        Kit.dueLying("row(1)", x, 0, 1, 2, 3, 4, 5, 6, 7);
        for (int far : FAR) {
            Kit.due("lies(" + far + ")", x.lies(far), -2);
        }
        x.row(0);
        Kit.dueLying("row(0)", x);
        Kit.refused("lies(3)", Kit::rich, y -> y.lies(3), -2);
        Kit.refused("lies(-1)", Kit::rich, y -> y.lies(-1), -2);
    }

    private static void liesStill() {
        Kit.says("They lie there then, from the lowest on");
        StampMap x = Kit.swept(Kit.THREE, 3);
        x.row(2);
        x.sweep();
        x.undo();
        x.redo();
        x.cut(0);
        x.raise(0);
        x.image(0);
        x.back(0);
        x.version(2, 3);
        x.highest();
        x.law(1);
        x.below(1, 1);
        x.gap(1, 20, 0);
        x.trapezes();
        x.area(0);
        x.hidden(0);
        x.fits(5, 0);
        x.lies(9);
        Kit.put(x, "slots 9;");
        x.map();
        Kit.dueLying("all that lets it lie", x, 2, 0, 1);
    }

    private static void nothingIsDone() {
        Kit.says("(By what is now; nothing is done.)");
        Kit.refused("below(7, 12)", Kit::rich, x -> x.below(7, 12), 0);
        Kit.refused("above(7, 9)", Kit::rich, x -> x.above(7, 9), 0);
        Kit.refused("on(7, 10)", Kit::rich, x -> x.on(7, 10), 1);
        Kit.refused("gap(7, 12, 0)", Kit::rich, x -> x.gap(7, 12, 0), 2);
        Kit.refused("crossed(2, 0)", Kit::rich, x -> x.crossed(2, 0), 1);
        Kit.refused("same(2, 0, 7, 0)", Kit::rich, x -> x.same(2, 0, 7, 0), 1);
        Kit.refused("trapezes()", Kit::rich, StampMap::trapezes, 3);
        Kit.refused("area(0)", Kit::rich, x -> x.area(0), 10 * 51);
        Kit.refused("largest()", Kit::rich, StampMap::largest, 0);
        Kit.refused("hidden(0)", Kit::rich, x -> x.hidden(0), 5);
        Kit.refused("sight(0, 1)", Kit::rich, x -> x.sight(0, 1), 4);
        Kit.refused("version(2, 3)", Kit::rich, x -> x.version(2, 3), 2);
        Kit.refused("depth(7, 12), but for what lies there", Kit::rich, () -> {
            StampMap x = Kit.rich();
            x.row(1);
            return x;
        }, x -> {
            int deep = x.depth(7, 12);
            x.row(1);
            return deep;
        }, 1);
    }
}
