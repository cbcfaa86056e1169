import java.util.ArrayList;
import java.util.List;
import java.util.Random;
import java.util.TreeSet;

/**
 * Runs StampMap beside a plain model of the document over many runs of calls that are drawn from
 * fixed seeds, and tells every answer in which the two differ. The model is written for plainness
 * alone: whole states are kept for undo, every point of the map is looked at one by one.
 */
public final class ModelTest {
    private static final int RUNS = 1500;
    private static final int FAULT_TEXTS = 6000;
    private static int wrong = 0;

    public static void main(String[] args) {
        for (int run = 0; run < RUNS; run++) {
            new Run(new Random(run)).go();
        }
        for (int slots = 1; slots <= 6; slots++) {
            new Crowd(slots).compare();
        }
        Random luck = new Random(77);
        for (int i = 0; i < FAULT_TEXTS; i++) {
            compareFaults(luck);
        }
        System.out.println(wrong == 0 ? "the program and the model agree" : wrong + " answers differ");
        if (wrong != 0) {
            System.exit(1);
        }
    }

    static void due(String story, long got, long want) {
        if (got != want) {
            wrong++;
            if (wrong < 20) {
                System.out.println(story + ": answered " + got + ", due is " + want);
            }
        }
    }

    private static void compareFaults(Random luck) {
        String text = new Texts(luck).broken();
        StampMap map = new StampMap();
        Model model = new Model();
        Run.put(map, text);
        model.tape = text;
        due("map of " + text, map.map(), model.map());
        due("fault(0) of " + text, map.fault(0), model.fault);
        due("fault(1) of " + text, map.fault(1), model.faultPlace);
        due("units of " + text, map.about(11), model.units);
        for (int k = 0; k < 8; k++) {
            due("weight of " + k + " in " + text, map.weight(k), model.weight(k));
        }
    }
}

/** One run of at most 512 calls on both. */
final class Run {
    private final Random luck;
    private final StampMap map = new StampMap();
    private final Model model = new Model();
    private final StringBuilder story = new StringBuilder();

    Run(Random luck) {
        this.luck = luck;
    }

    static void put(StampMap map, String text) {
        for (int at = 0; at < text.length(); at += 20) {
            int[] n = new int[5];
            for (int i = 0; i < 20; i++) {
                int sign = at + i < text.length() ? text.charAt(at + i) : 0;
                n[i / 4] |= sign << (24 - 8 * (i % 4));
            }
            map.feed(n[0], n[1], n[2], n[3], n[4]);
        }
        map.end(text.length());
    }

    void go() {
        if (luck.nextInt(10) > 0) {
            tell(new Texts(luck).sound());
        }
        int boldness = luck.nextInt(4);
        for (int calls = 100; calls < 508; calls++) {
            int draw = luck.nextInt(100);
            if (draw < 20 + 10 * boldness && boldness > 0) {
                act();
            } else if (draw == 99 && luck.nextInt(8) == 0 && calls < 400) {
                calls += 85;
                tell(luck.nextInt(4) == 0 ? new Texts(luck).broken() : new Texts(luck).sound());
            } else {
                look();
            }
        }
    }

    private void tell(String text) {
        story.setLength(0);
        story.append(text).append(" ## ");
        put(map, text);
        model.tape = text;
        due("map()", map.map(), model.map());
    }

    private void due(String call, long got, long want) {
        story.append(call).append(' ');
        ModelTest.due(story.toString(), got, want);
    }

    /** A number from least to most, now and then one a little outside, or far. */
    private int near(int least, int most) {
        int[] far = {Integer.MIN_VALUE, Integer.MIN_VALUE + 1, -100, 100, 1 << 30, Integer.MAX_VALUE - 1, Integer.MAX_VALUE};
        switch (luck.nextInt(36)) {
            case 0:
                return far[luck.nextInt(far.length)];
            case 1:
                return least - 1 - luck.nextInt(3);
            case 2:
                return most + 1 + luck.nextInt(3);
            default:
                return least + luck.nextInt(most - least + 1);
        }
    }

    private int anySegment() {
        return near(-1, Math.max(model.segments.size() - 1, 0));
    }

    private int anyStamp() {
        return near(0, model.state.versions.size() - 1);
    }

    private void act() {
        int s = anySegment();
        int n = luck.nextInt(9);
        List<Integer> in = new ArrayList<>(model.state.versions.get(model.state.versions.size() - 1).in);
        int likely = in.isEmpty() || luck.nextInt(3) == 0 ? s : in.get(luck.nextInt(in.size()));
        switch (luck.nextInt(16)) {
            case 0: case 1: case 2: case 3:
                due("sweep()", map.sweep(), model.sweep());
                break;
            case 4: case 5: case 6:
                due("cut(" + likely + ")", map.cut(likely), model.cut(likely));
                break;
            case 7: case 8: case 9: case 10:
                due("raise(" + s + ")", map.raise(s), model.raise(s));
                break;
            case 11:
                due("undo()", map.undo() ? 1 : 0, model.undo() ? 1 : 0);
                break;
            case 12:
                due("redo()", map.redo() ? 1 : 0, model.redo() ? 1 : 0);
                break;
            case 13:
                int box = near(0, 2);
                due("image(" + box + ")", map.image(box), model.image(box));
                break;
            case 14:
                if (luck.nextInt(4) == 0) {
                    int from = near(0, 2);
                    due("back(" + from + ")", map.back(from), model.back(from));
                }
                break;
            default:
                for (int i = 0; i < n; i++) {
                    due("undo()", map.undo() ? 1 : 0, model.undo() ? 1 : 0);
                }
                for (int i = luck.nextInt(n + 1); i > 0; i--) {
                    due("redo()", map.redo() ? 1 : 0, model.redo() ? 1 : 0);
                }
        }
    }

    private void look() {
        switch (luck.nextInt(4)) {
            case 0:
                lookAtNodes();
                break;
            case 1:
                lookAtPoints();
                break;
            case 2:
                lookAtAll();
                break;
            default:
                lookAtSeen();
        }
    }

    private void lookAtNodes() {
        int s = anySegment();
        int other = anySegment();
        int stamp = anyStamp();
        int stamp2 = anyStamp();
        int node = near(0, Math.max(model.state.nodes.size() - 1, 0));
        int what = near(0, 6);
        int x = near(0, 60);
        switch (luck.nextInt(11)) {
            case 0:
                due("segment(" + s + "," + what + ")", map.segment(s, what), model.segment(s, what));
                break;
            case 1:
                due("weight(" + s + ")", map.weight(s), model.weight(s));
                break;
            case 2:
                due("higher(" + s + "," + other + "," + x + ")", map.higher(s, other, x), model.higher(s, other, x));
                break;
            case 3:
                due("version(" + stamp + "," + what + ")", map.version(stamp, what), model.version(stamp, what));
                break;
            case 4:
                due("node(" + node + "," + what + ")", map.node(node, what), model.node(node, what));
                break;
            case 5:
                int change = near(0, 2);
                int part = near(0, 2);
                due("change(" + node + "," + change + "," + part + ")", map.change(node, change, part), model.change(node, change, part));
                break;
            case 6:
                int side = near(0, 1);
                due("read(" + node + "," + side + "," + stamp + ")", map.read(node, side, stamp), model.read(node, side, stamp));
                break;
            case 7:
                due("row(" + stamp + ")", map.row(stamp), model.row(stamp));
                lies();
                break;
            case 8:
                due("shape(" + stamp + ")", map.shape(stamp), model.shape(stamp));
                lies();
                break;
            case 9:
                due("unlike(" + stamp + "," + stamp2 + ")", map.unlike(stamp, stamp2), model.unlike(stamp, stamp2));
                break;
            default:
                due("shared(" + stamp + "," + stamp2 + ")", map.shared(stamp, stamp2), model.shared(stamp, stamp2));
        }
    }

    private void lies() {
        for (int i = -1; i <= 8; i++) {
            due("lies(" + i + ")", map.lies(i), model.lies(i));
        }
    }

    private int anyUp(int x) {
        if (luck.nextInt(3) > 0 && !model.segments.isEmpty()) {
            Model.Segment s = model.segments.get(luck.nextInt(model.segments.size()));
            return s.y1 + (s.y2 - s.y1) * (x - s.x1) / (s.x2 - s.x1) + luck.nextInt(3) - 1;
        }
        return near(-9, 99);
    }

    private void lookAtPoints() {
        int x = near(0, 60);
        int y = anyUp(x);
        int x2 = near(0, 60);
        int y2 = anyUp(x2);
        String point = "(" + x + "," + y;
        switch (luck.nextInt(7)) {
            case 0:
                due("below" + point + ")", map.below(x, y), model.below(x, y));
                break;
            case 1:
                due("above" + point + ")", map.above(x, y), model.above(x, y));
                break;
            case 2:
                due("on" + point + ")", map.on(x, y), model.on(x, y));
                break;
            case 3:
                due("depth" + point + ")", map.depth(x, y), model.depth(x, y));
                lies();
                break;
            case 4:
                int what = near(0, 3);
                due("gap" + point + "," + what + ")", map.gap(x, y, what), model.gap(x, y, what));
                break;
            case 5:
                due("crossed" + point + ")", map.crossed(x, y), model.crossed(x, y));
                break;
            default:
                due("same" + point + "," + x2 + "," + y2 + ")", map.same(x, y, x2, y2), model.same(x, y, x2, y2));
        }
    }

    private void lookAtAll() {
        int s = anySegment();
        int what = near(0, 2);
        switch (luck.nextInt(19)) {
            case 0: due("written()", map.written(), model.written()); break;
            case 1: due("copies(" + s + ")", map.copies(s), model.copies(s)); break;
            case 2: due("dearest()", map.dearest(), model.dearest()); break;
            case 3: due("paid()", map.paid(), model.paid()); break;
            case 4: due("credit()", map.credit(), model.credit()); break;
            case 5: int n = near(1, 6); due("law(" + n + ")", map.law(n), model.law(n)); break;
            case 6: due("busiest()", map.busiest(), model.busiest()); break;
            case 7: due("widest()", map.widest(), model.widest()); break;
            case 8: due("highest()", map.highest(), model.highest()); break;
            case 9: due("stays(" + s + ")", map.stays(s), model.stays(s)); break;
            case 10: due("sight(" + s + "," + what + ")", map.sight(s, what), model.sight(s, what)); break;
            case 11: due("trapezes()", map.trapezes(), model.trapezes()); break;
            case 12: due("area(" + s + ")", map.area(s), model.area(s)); break;
            case 13: due("largest()", map.largest(), model.largest()); break;
            case 14: due("hidden(" + what + ")", map.hidden(what), model.hidden(what)); break;
            case 15: due("next()", map.next(), model.next()); break;
            case 16: due("events()", map.events(), model.events().size()); break;
            default: int a = near(0, 12); due("about(" + a + ")", map.about(a), model.about(a));
        }
    }

    private void lookAtSeen() {
        int s = anySegment();
        int up = luck.nextInt(6) == 0 ? near(-9, 99) : near(0, 60);
        int k = near(0, model.time);
        int what = near(0, 1);
        switch (luck.nextInt(8)) {
            case 0:
                if (luck.nextInt(3) == 0) {
                    boolean is = luck.nextInt(4) == 0;
                    due("seen(" + s + "," + is + ")", map.seen(s, is), model.seen(s, is));
                }
                break;
            case 1:
                int number = near(0, Math.max(model.told.size() - 1, 0));
                due("untell(" + number + ")", map.untell(number) ? 1 : 0, model.untell(number) ? 1 : 0);
                break;
            case 2:
                int by = luck.nextInt(5) == 0 ? near(0, 1000) : luck.nextInt(3);
                due("later(" + by + ")", map.later(by), model.later(by));
                break;
            case 3: case 4:
                due("fits(" + up + "," + k + ")", map.fits(up, k), model.fits(up, k));
                break;
            case 5:
                due("sure(" + up + "," + what + "," + k + ")", map.sure(up, what, k), model.sure(up, what, k));
                break;
            default:
                due("ask(" + up + "," + what + "," + k + ")", map.ask(up, what, k), model.ask(up, what, k));
        }
    }
}

/**
 * A tree whose middle is cut and raised till there are 40 versions, and each time much is woven
 * anew: all that there is to be read of versions, nodes and changes is compared, each object
 * being asked no more than 512 calls.
 */
final class Crowd {
    private final String text;
    private final Model model = new Model();
    private StampMap map;
    private int calls = 1000;

    Crowd(int slots) {
        StringBuilder lines = new StringBuilder();
        for (int i = 1; i <= 8; i++) {
            lines.append("seg ").append((char) ('s' + i - 1)).append(" at 0 ").append(i).append(" to 60 ").append(i).append(';');
        }
        text = lines + "weighs (number<3)*(8-2*number)+(number=3)*9+(number>3)*(2*number-7);slots " + slots + ";";
        model.tape = text;
        model.map();
        model.sweep();
        for (int i = 1; i < 40; i++) {
            if (i % 2 == 1) {
                model.cut(3);
            } else {
                model.raise(3);
            }
        }
    }

    private StampMap fresh() {
        calls++;
        if (calls > 400) {
            map = new StampMap();
            Run.put(map, text);
            map.map();
            map.sweep();
            for (int i = 1; i < 40; i++) {
                due("act", (i % 2 == 1 ? map.cut(3) : map.raise(3)), 7 + (i + 1) % 2);
            }
            calls = 70;
        }
        return map;
    }

    private void due(String call, long got, long want) {
        ModelTest.due(call + " of a crowd, " + text, got, want);
    }

    void compare() {
        for (int node = 0; node <= model.state.nodes.size(); node++) {
            for (int what = 0; what < 7; what++) {
                due("node(" + node + "," + what + ")", fresh().node(node, what), model.node(node, what));
            }
            for (int change = 0; change < 7; change++) {
                for (int what = 0; what < 3; what++) {
                    due("change", fresh().change(node, change, what), model.change(node, change, what));
                }
            }
            for (int stamp = 0; stamp <= 41; stamp += 5) {
                due("read left", fresh().read(node, 0, stamp), model.read(node, 0, stamp));
                due("read right", fresh().read(node, 1, stamp), model.read(node, 1, stamp));
            }
        }
        for (int stamp = 0; stamp <= 41; stamp++) {
            for (int what = 0; what < 5; what++) {
                due("version", fresh().version(stamp, what), model.version(stamp, what));
            }
            due("shared", fresh().shared(stamp, 40), model.shared(stamp, 40));
        }
        for (int n = 1; n <= 6; n++) {
            due("law", fresh().law(n), model.law(n));
        }
        due("nodes", fresh().about(4), model.about(4));
        due("more than 60 nodes with one slot", fresh().about(5) > 1 || fresh().about(4) > 60 ? 1 : 0, 1);
        due("written", fresh().written(), model.written());
        due("paid", fresh().paid(), model.paid());
        due("credit", fresh().credit(), model.credit());
        due("dearest", fresh().dearest(), model.dearest());
        due("busiest", fresh().busiest(), model.busiest());
    }
}

/** Texts of maps, sound ones and ones with a fault somewhere. */
final class Texts {
    private static final String[] LEAVES = {"number", "across", "width", "rise", "luck"};
    private final Random luck;
    private int unitsLeft;

    Texts(Random luck) {
        this.luck = luck;
    }

    String sound() {
        List<String> lines = new ArrayList<>();
        List<int[]> told = new ArrayList<>();
        int grid = 1 + luck.nextInt(3) * 5;
        int most = luck.nextInt(9);
        for (int tries = 0; tries < 60 && told.size() < most; tries++) {
            int[] s = segment(grid, told);
            boolean fits = s[2] > s[0];
            for (int[] t : told) {
                fits &= !Model.touch(s, t);
            }
            if (fits) {
                lines.add("seg " + (char) ('a' + told.size()) + (told.size() % 2 == 0 ? "" : "x") + " at "
                        + s[0] + " " + s[1] + " to " + s[2] + " " + s[3]);
                told.add(s);
            }
        }
        if (luck.nextInt(3) > 0) {
            unitsLeft = 30;
            lines.add(luck.nextInt(lines.size() + 1), "weighs " + formula(0));
        }
        if (luck.nextInt(3) > 0) {
            lines.add(luck.nextInt(lines.size() + 1), "slots " + (1 + luck.nextInt(6)));
        }
        if (luck.nextInt(3) > 0) {
            lines.add(luck.nextInt(lines.size() + 1), "draw " + luck.nextInt(1000));
        }
        StringBuilder text = new StringBuilder();
        for (String line : lines) {
            text.append(line).append(luck.nextInt(3) == 0 ? ";\n " : ";");
        }
        return text.length() > 1500 ? "" : text.toString();
    }

    private int[] segment(int grid, List<int[]> told) {
        int x1 = luck.nextInt(60 / grid) * grid;
        int y1 = luck.nextInt(60 / grid + 1) * grid;
        int x2 = x1 + grid * (1 + luck.nextInt(30 / grid + 1));
        int y2 = y1 + grid * (luck.nextInt(11) - 5);
        if (!told.isEmpty() && luck.nextBoolean()) {
            int[] t = told.get(luck.nextInt(told.size()));
            int end = 2 * luck.nextInt(2);
            x1 = Math.min(t[end], 59);
            y1 = t[end + 1];
            x2 = Math.max(x2, x1 + 1);
            if (luck.nextBoolean()) {
                x2 = t[2];
                y2 = t[3];
                x1 = luck.nextInt(60 / grid) * grid;
            }
        }
        return new int[] {x1, y1, Math.min(x2, 60), Math.max(0, Math.min(y2, 60))};
    }

    private String formula(int depth) {
        String text = both(depth);
        return luck.nextInt(6) == 0 && unitsLeft > 0 ? text + " or " + both(depth) : text;
    }

    private String both(int depth) {
        String text = one(depth);
        return luck.nextInt(6) == 0 && unitsLeft > 0 ? text + " and " + one(depth) : text;
    }

    private String one(int depth) {
        if (luck.nextInt(7) == 0 && depth < 7) {
            return "not " + one(depth + 1);
        }
        String text = sum(depth);
        return luck.nextInt(5) == 0 && unitsLeft > 0 ? text + "<>=".charAt(luck.nextInt(3)) + sum(depth) : text;
    }

    private String sum(int depth) {
        StringBuilder text = new StringBuilder(term(depth));
        while (luck.nextInt(3) == 0 && unitsLeft > 0) {
            text.append("+-".charAt(luck.nextInt(2))).append(term(depth));
        }
        return text.toString();
    }

    private String term(int depth) {
        StringBuilder text = new StringBuilder(unit(depth));
        while (luck.nextInt(3) == 0 && unitsLeft > 0) {
            text.append("*/%".charAt(luck.nextInt(3))).append(unit(depth));
        }
        return text.toString();
    }

    private String unit(int depth) {
        unitsLeft--;
        if (luck.nextInt(5) == 0 && depth < 7 && unitsLeft > 0) {
            return "(" + formula(depth + 1) + ")";
        }
        return luck.nextInt(3) == 0 ? "" + luck.nextInt(luck.nextInt(2) * 9990 + 10) : LEAVES[luck.nextInt(5)];
    }

    /** A sound text in which something was changed, mostly for the worse. */
    String broken() {
        StringBuilder text = new StringBuilder(luck.nextInt(20) == 0 ? packed() : sound());
        if (luck.nextInt(4) == 0) {
            unitsLeft = 40;
            text.append("weighs ").append(formula(-2)).append(';');
        }
        String[] pieces = {" ", ";", "(", ")", "not ", "<", "1", "seg b at 1 2 to 3 4;", "slots 2;", "draw 7;", "$",
            "a", "seg", "to", "12345", "abcdefghij", "7x", "\n", "\t", "and ", "or ", "+", "%", "weighs 1;", "\u00e9"};
        for (int changes = luck.nextInt(3); changes >= 0 && text.length() > 0; changes--) {
            int at = luck.nextInt(text.length());
            switch (luck.nextInt(4)) {
                case 0:
                    text.deleteCharAt(at);
                    break;
                case 1:
                    text.insert(at, pieces[luck.nextInt(pieces.length)]);
                    break;
                case 2:
                    text.setCharAt(at, (char) ('0' + luck.nextInt(10)));
                    break;
                default:
                    text.setLength(at);
            }
        }
        return text.length() > 1600 ? text.substring(0, 1600) : text.toString();
    }

    private String packed() {
        StringBuilder text = new StringBuilder();
        for (int i = 0; i < 8; i++) {
            text.append("seg s").append((char) ('a' + i)).append("at0 ").append(i * 5).append("to60 ").append(i * 5 + 3).append(';');
        }
        return text.append("weighs ").append("(((1+2*3)))+1%luck").append(';').toString();
    }
}

/** The document, as plainly as can be. */
final class Model {
    static final class Segment {
        String name;
        int x1;
        int y1;
        int x2;
        int y2;
    }

    static final class Node {
        int segment;
        int made;
        int left;
        int right;
        boolean copy;
        List<int[]> changes = new ArrayList<>();
    }

    static final class Version {
        int place;
        int root = -1;
        int cost;
        TreeSet<Integer> in = new TreeSet<>();
        TreeSet<Integer> cut = new TreeSet<>();
        TreeSet<Integer> eventsLeft = new TreeSet<>();
    }

    static final class State {
        List<Version> versions = new ArrayList<>();
        List<Node> nodes = new ArrayList<>();

        State copy() {
            State twin = new State();
            twin.versions.addAll(versions);
            for (Node n : nodes) {
                Node m = new Node();
                m.segment = n.segment;
                m.made = n.made;
                m.left = n.left;
                m.right = n.right;
                m.copy = n.copy;
                m.changes.addAll(n.changes);
                twin.nodes.add(m);
            }
            return twin;
        }
    }

    static final class Tree {
        int segment;
        Tree left;
        Tree right;

        int height() {
            return 1 + Math.max(left == null ? 0 : left.height(), right == null ? 0 : right.height());
        }
    }

    static final class Told {
        int segment;
        boolean is;
        int at;
        int until = Integer.MAX_VALUE;
    }

    static final class Fault extends RuntimeException {
        private static final long serialVersionUID = 1L;
        final int why;
        final int place;

        Fault(int why, int place) {
            this.why = why;
            this.place = place;
        }
    }

    String tape = "";
    int fault = 0;
    int faultPlace = -1;
    int slots = 3;
    int units = 0;
    int time = 0;
    List<Segment> segments = new ArrayList<>();
    List<Integer> weights = new ArrayList<>();
    State state = fresh();
    List<State> undos = new ArrayList<>();
    List<State> redos = new ArrayList<>();
    State[] boxes = new State[3];
    List<Told> told = new ArrayList<>();
    List<Integer> lying = new ArrayList<>();

    private State fresh() {
        State s = new State();
        Version v = new Version();
        v.eventsLeft.addAll(events());
        s.versions.add(v);
        return s;
    }

    TreeSet<Integer> events() {
        TreeSet<Integer> places = new TreeSet<>();
        for (Segment s : segments) {
            places.add(s.x1);
            places.add(s.x2);
        }
        return places;
    }

    int map() {
        String text = tape;
        tape = "";
        fault = 0;
        faultPlace = -1;
        Reading reading = new Reading(text);
        try {
            reading.read();
        } catch (Fault f) {
            fault = f.why;
            faultPlace = f.place;
            return -1;
        }
        segments = reading.segments;
        slots = reading.slots;
        units = reading.units;
        weights = reading.weights();
        state = fresh();
        undos.clear();
        redos.clear();
        boxes = new State[3];
        told.clear();
        lying.clear();
        return segments.size();
    }

    /** Whether two segments {x1, y1, x2, y2} have a point in common that is not an end of both. */
    static boolean touch(int[] a, int[] b) {
        for (int[] s : new int[][] {a, b}) {
            int[] t = s == a ? b : a;
            for (int end = 0; end < 4; end += 2) {
                boolean isEndOfBoth = (s[end] == t[0] && s[end + 1] == t[1]) || (s[end] == t[2] && s[end + 1] == t[3]);
                if (!isEndOfBoth && side(t, s[end], s[end + 1]) == 0 && s[end] >= t[0] && s[end] <= t[2]) {
                    return true;
                }
            }
        }
        if (a[0] == b[0] && a[1] == b[1] && a[2] == b[2] && a[3] == b[3]) {
            return true;
        }
        return side(a, b[0], b[1]) * side(a, b[2], b[3]) < 0 && side(b, a[0], a[1]) * side(b, a[2], a[3]) < 0;
    }

    private static int side(int[] s, int x, int y) {
        return Integer.signum((s[2] - s[0]) * (y - s[1]) - (s[3] - s[1]) * (x - s[0]));
    }

    private boolean has(int segment) {
        return segment >= 0 && segment < segments.size();
    }

    private boolean over(int segment, int x) {
        return segments.get(segment).x1 <= x && x < segments.get(segment).x2;
    }

    /** Up at x, times the width, for fractions told exactly. */
    private long top(int segment, int x) {
        Segment s = segments.get(segment);
        return (long) s.y1 * (s.x2 - s.x1) + (long) (s.y2 - s.y1) * (x - s.x1);
    }

    private long wide(int segment) {
        return segments.get(segment).x2 - segments.get(segment).x1;
    }

    private boolean isHigher(int a, int b, int x) {
        long one = top(a, x) * wide(b);
        long other = top(b, x) * wide(a);
        if (one != other) {
            return one > other;
        }
        Segment s = segments.get(a);
        Segment t = segments.get(b);
        return (s.y2 - s.y1) * wide(b) > (t.y2 - t.y1) * wide(a);
    }

    private List<Integer> lowestFirst(Iterable<Integer> in, int x) {
        List<Integer> row = new ArrayList<>();
        for (int s : in) {
            int at = 0;
            while (at < row.size() && isHigher(s, row.get(at), x)) {
                at++;
            }
            row.add(at, s);
        }
        return row;
    }

    private Tree tree(List<Integer> row) {
        if (row.isEmpty()) {
            return null;
        }
        int best = 0;
        for (int i = 1; i < row.size(); i++) {
            int w = weights.get(row.get(i));
            int b = weights.get(row.get(best));
            if (w > b || (w == b && row.get(i) < row.get(best))) {
                best = i;
            }
        }
        Tree t = new Tree();
        t.segment = row.get(best);
        t.left = tree(row.subList(0, best));
        t.right = tree(row.subList(best + 1, row.size()));
        return t;
    }

    private Version newest() {
        return state.versions.get(state.versions.size() - 1);
    }

    private int stampNow() {
        return state.versions.size() - 1;
    }

    private Tree treeOf(int stamp) {
        Version v = state.versions.get(stamp);
        return tree(lowestFirst(v.in, v.place));
    }

    private Version nextVersion() {
        Version old = newest();
        Version v = new Version();
        v.place = old.place;
        v.in.addAll(old.in);
        v.cut.addAll(old.cut);
        v.eventsLeft.addAll(old.eventsLeft);
        return v;
    }

    private int act(Version v) {
        undos.add(state.copy());
        redos.clear();
        grow(state, v, slots);
        return v.in.size();
    }

    private void grow(State s, Version v, int room) {
        Version old = s.versions.get(s.versions.size() - 1);
        s.versions.add(v);
        Tree t = tree(lowestFirst(v.in, v.place));
        v.root = settle(s, t, old, v, room);
    }

    /** The node that a segment had last. */
    private int lastNode(State s, int segment) {
        int found = -1;
        for (int i = 0; i < s.nodes.size(); i++) {
            if (s.nodes.get(i).segment == segment) {
                found = i;
            }
        }
        return found;
    }

    private int settle(State s, Tree t, Version old, Version v, int room) {
        if (t == null) {
            return -1;
        }
        int left = settle(s, t.left, old, v, room);
        int right = settle(s, t.right, old, v, room);
        int stamp = s.versions.size() - 1;
        if (!old.in.contains(t.segment)) {
            v.cost++;
            return make(s, t.segment, stamp, left, right, false);
        }
        int id = lastNode(s, t.segment);
        Node node = s.nodes.get(id);
        List<int[]> due = new ArrayList<>();
        if (child(node, 0, stamp - 1) != left) {
            due.add(new int[] {stamp, 0, left});
        }
        if (child(node, 1, stamp - 1) != right) {
            due.add(new int[] {stamp, 1, right});
        }
        if (node.changes.size() + due.size() <= room) {
            node.changes.addAll(due);
            v.cost += due.size();
            return id;
        }
        if (due.isEmpty()) {
            return id;
        }
        v.cost++;
        return make(s, t.segment, stamp, left, right, true);
    }

    private int make(State s, int segment, int stamp, int left, int right, boolean copy) {
        Node n = new Node();
        n.segment = segment;
        n.made = stamp;
        n.left = left;
        n.right = right;
        n.copy = copy;
        s.nodes.add(n);
        return s.nodes.size() - 1;
    }

    private int child(Node n, int side, int stamp) {
        int answer = side == 0 ? n.left : n.right;
        for (int[] c : n.changes) {
            if (c[1] == side && c[0] <= stamp) {
                answer = c[2];
            }
        }
        return answer;
    }

    int sweep() {
        if (stampNow() == 40 || newest().eventsLeft.isEmpty()) {
            return -1;
        }
        Version v = nextVersion();
        v.place = v.eventsLeft.pollFirst();
        for (int s = 0; s < segments.size(); s++) {
            if (segments.get(s).x1 == v.place) {
                v.in.add(s);
            }
            if (segments.get(s).x2 == v.place) {
                v.in.remove(s);
            }
        }
        return act(v);
    }

    int cut(int segment) {
        if (stampNow() == 40 || !newest().in.contains(segment)) {
            return -1;
        }
        Version v = nextVersion();
        v.in.remove(segment);
        v.cut.add(segment);
        return act(v);
    }

    int raise(int segment) {
        if (stampNow() == 40 || !newest().cut.contains(segment) || !over(segment, newest().place)) {
            return -1;
        }
        Version v = nextVersion();
        v.in.add(segment);
        v.cut.remove(segment);
        return act(v);
    }

    boolean undo() {
        if (undos.isEmpty()) {
            return false;
        }
        redos.add(state);
        state = undos.remove(undos.size() - 1);
        return true;
    }

    boolean redo() {
        if (redos.isEmpty()) {
            return false;
        }
        undos.add(state);
        state = redos.remove(redos.size() - 1);
        return true;
    }

    int image(int box) {
        if (box < 0 || box > 2) {
            return -1;
        }
        boxes[box] = state.copy();
        return stampNow();
    }

    int back(int box) {
        if (box < 0 || box > 2 || boxes[box] == null) {
            return -1;
        }
        state = boxes[box].copy();
        undos.clear();
        redos.clear();
        return stampNow();
    }

    int segment(int segment, int what) {
        if (!has(segment)) {
            return -2;
        }
        Segment s = segments.get(segment);
        boolean in = newest().in.contains(segment);
        int[] answers = {s.x1, s.y1, s.x2, s.y2, in ? 1 : 0, newest().cut.contains(segment) ? 1 : 0,
            in ? nodeIn(stampNow(), segment) : -1};
        return what >= 0 && what < 7 ? answers[what] : -2;
    }

    int weight(int segment) {
        return has(segment) ? weights.get(segment) : 0;
    }

    int higher(int a, int b, int x) {
        if (!has(a) || !has(b) || a == b || !over(a, x) || !over(b, x)) {
            return -1;
        }
        return isHigher(a, b, x) ? 1 : 0;
    }

    private boolean stamp(int stamp) {
        return stamp >= 0 && stamp < state.versions.size();
    }

    private int bits(Iterable<Integer> in) {
        int sum = 0;
        for (int s : in) {
            sum += 1 << s;
        }
        return sum;
    }

    int version(int stamp, int what) {
        if (!stamp(stamp) || what < 0 || what > 4) {
            return -2;
        }
        Version v = state.versions.get(stamp);
        Tree t = treeOf(stamp);
        return new int[] {v.place, bits(v.in), v.root, t == null ? 0 : t.height(), v.cost}[what];
    }

    /** Nodes of a version, walked to from its root. */
    private List<Integer> nodesOf(int stamp) {
        List<Integer> found = new ArrayList<>();
        walk(state.versions.get(stamp).root, stamp, found);
        return found;
    }

    private void walk(int node, int stamp, List<Integer> found) {
        if (node != -1) {
            found.add(node);
            walk(child(state.nodes.get(node), 0, stamp), stamp, found);
            walk(child(state.nodes.get(node), 1, stamp), stamp, found);
        }
    }

    private int nodeIn(int stamp, int segment) {
        for (int n : nodesOf(stamp)) {
            if (state.nodes.get(n).segment == segment) {
                return n;
            }
        }
        return -1;
    }

    int node(int node, int what) {
        if (node < 0 || node >= state.nodes.size() || what < 0 || what > 6) {
            return -2;
        }
        Node n = state.nodes.get(node);
        int parent = -1;
        for (int p : nodesOf(stampNow())) {
            for (int side = 0; side < 2; side++) {
                parent = child(state.nodes.get(p), side, stampNow()) == node ? p : parent;
            }
        }
        int there = nodesOf(stampNow()).contains(node) ? 1 : 0;
        return new int[] {n.segment, n.made, n.left, n.right, n.changes.size(), parent, there}[what];
    }

    int change(int node, int change, int what) {
        if (node < 0 || node >= state.nodes.size() || what < 0 || what > 2) {
            return -2;
        }
        List<int[]> all = state.nodes.get(node).changes;
        return change < 0 || change >= all.size() ? -2 : all.get(change)[what];
    }

    int read(int node, int side, int stamp) {
        if (node < 0 || node >= state.nodes.size() || side < 0 || side > 1 || !stamp(stamp)) {
            return -2;
        }
        Node n = state.nodes.get(node);
        return stamp < n.made ? -2 : child(n, side, stamp);
    }

    int row(int stamp) {
        lying.clear();
        if (!stamp(stamp)) {
            return -1;
        }
        Version v = state.versions.get(stamp);
        lying.addAll(lowestFirst(v.in, v.place));
        return lying.size();
    }

    int shape(int stamp) {
        lying.clear();
        if (!stamp(stamp)) {
            return -1;
        }
        for (int n : nodesOf(stamp)) {
            lying.add(state.nodes.get(n).segment);
        }
        Tree t = treeOf(stamp);
        return t == null ? 0 : t.height();
    }

    int lies(int i) {
        return i < 0 || i >= lying.size() ? -2 : lying.get(i);
    }

    int next() {
        return newest().eventsLeft.isEmpty() ? -1 : newest().eventsLeft.first();
    }

    private boolean swept(int x) {
        return next() == -1 || x < next();
    }

    private boolean point(int x, int y) {
        return x >= 0 && x <= 60 && y >= -9 && y <= 99 && swept(x);
    }

    private Version versionAt(int x) {
        Version found = null;
        for (Version v : state.versions) {
            found = v.place <= x ? v : found;
        }
        return found;
    }

    private boolean fartherUp(int segment, int x, int y) {
        return top(segment, x) > y * wide(segment);
    }

    private int region(Iterable<Integer> in, int x, int y) {
        int best = -1;
        for (int s : in) {
            if (!fartherUp(s, x, y) && (best == -1 || isHigher(s, best, x))) {
                best = s;
            }
        }
        return best;
    }

    int below(int x, int y) {
        return point(x, y) ? region(versionAt(x).in, x, y) : -2;
    }

    int above(int x, int y) {
        if (!point(x, y)) {
            return -2;
        }
        int best = -1;
        for (int s : versionAt(x).in) {
            if (fartherUp(s, x, y) && (best == -1 || isHigher(best, s, x))) {
                best = s;
            }
        }
        return best;
    }

    int on(int x, int y) {
        if (!point(x, y)) {
            return -2;
        }
        int s = below(x, y);
        return s != -1 && top(s, x) == y * wide(s) ? 1 : 0;
    }

    int depth(int x, int y) {
        lying.clear();
        if (!point(x, y)) {
            return -2;
        }
        int stamp = state.versions.indexOf(versionAt(x));
        for (int n = versionAt(x).root; n != -1;) {
            Node node = state.nodes.get(n);
            lying.add(node.segment);
            n = child(node, fartherUp(node.segment, x, y) ? 0 : 1, stamp);
        }
        return lying.size();
    }

    int gap(int x, int y, int what) {
        if (!point(x, y) || what < 0 || what > 3) {
            return -1;
        }
        int s = what < 2 ? below(x, y) : above(x, y);
        if (s == -1) {
            return -1;
        }
        long upper = Math.abs(y * wide(s) - top(s, x));
        long lower = wide(s);
        for (int d = 60; d > 1; d--) {
            if (upper % d == 0 && lower % d == 0) {
                upper /= d;
                lower /= d;
            }
        }
        return (int) (what % 2 == 0 ? upper : lower);
    }

    int crossed(int x, int y) {
        return point(x, y) ? countAbove(x, y) : -2;
    }

    private int countAbove(int x, int y) {
        int many = 0;
        for (int s : versionAt(x).in) {
            many += fartherUp(s, x, y) ? 1 : 0;
        }
        return many;
    }

    int same(int x, int y, int x2, int y2) {
        return !point(x, y) || !point(x2, y2) ? -2 : below(x, y) == below(x2, y2) ? 1 : 0;
    }

    int unlike(int one, int other) {
        if (!stamp(one) || !stamp(other)) {
            return -1;
        }
        TreeSet<Integer> all = new TreeSet<>(state.versions.get(one).in);
        all.addAll(state.versions.get(other).in);
        TreeSet<Integer> common = new TreeSet<>(state.versions.get(one).in);
        common.retainAll(state.versions.get(other).in);
        return all.size() - common.size();
    }

    int shared(int one, int other) {
        if (!stamp(one) || !stamp(other)) {
            return -1;
        }
        List<Integer> common = nodesOf(one);
        common.retainAll(nodesOf(other));
        return common.size();
    }

    int written() {
        int sum = 0;
        for (Node n : state.nodes) {
            sum += n.changes.size();
        }
        return sum;
    }

    int copies(int segment) {
        return segment != -1 && !has(segment) ? -2 : copies(state, segment);
    }

    private int copies(State s, int segment) {
        int sum = 0;
        for (Node n : s.nodes) {
            sum += n.copy && (segment == -1 || n.segment == segment) ? 1 : 0;
        }
        return sum;
    }

    int dearest() {
        int best = -1;
        for (int v = 1; v < state.versions.size(); v++) {
            if (best == -1 || state.versions.get(v).cost > state.versions.get(best).cost) {
                best = v;
            }
        }
        return best;
    }

    int paid() {
        return Math.max(0, written() - copies(-1) * (slots - 1));
    }

    int credit() {
        int sum = 0;
        for (int n : nodesOf(stampNow())) {
            sum += state.nodes.get(n).changes.size();
        }
        return sum;
    }

    int law(int n) {
        if (n < 1 || n > 6) {
            return -1;
        }
        State other = fresh();
        for (int stamp = 1; stamp <= stampNow(); stamp++) {
            Version v = new Version();
            v.place = state.versions.get(stamp).place;
            v.in.addAll(state.versions.get(stamp).in);
            grow(other, v, n);
        }
        return copies(other, -1);
    }

    int busiest() {
        int best = segments.isEmpty() ? -1 : 0;
        for (int s = 0; s < segments.size(); s++) {
            best = copies(s) > copies(best) ? s : best;
        }
        return best;
    }

    int widest() {
        int best = 0;
        for (int v = 0; v < state.versions.size(); v++) {
            best = state.versions.get(v).in.size() > state.versions.get(best).in.size() ? v : best;
        }
        return best;
    }

    int highest() {
        int best = 0;
        for (int v = 0; v < state.versions.size(); v++) {
            best = version(v, 3) > version(best, 3) ? v : best;
        }
        return best;
    }

    int stays(int segment) {
        if (!has(segment)) {
            return -1;
        }
        int many = 0;
        for (Version v : state.versions) {
            many += v.in.contains(segment) ? 1 : 0;
        }
        return many;
    }

    private int nextHigher(Version v, int segment) {
        List<Integer> row = lowestFirst(v.in, v.place);
        int at = row.indexOf(segment);
        return at < 0 ? -2 : at + 1 < row.size() ? row.get(at + 1) : -1;
    }

    int sight(int segment, int what) {
        if (!has(segment) || what < 0 || what > 1) {
            return -1;
        }
        TreeSet<Integer> found = new TreeSet<>();
        for (Version v : state.versions) {
            for (int s = 0; s < segments.size(); s++) {
                if (what == 0 && nextHigher(v, segment) == s) {
                    found.add(s);
                }
                if (what == 1 && nextHigher(v, s) == segment) {
                    found.add(s);
                }
            }
        }
        return bits(found);
    }

    int trapezes() {
        int many = 0;
        for (int s = 0; s < segments.size(); s++) {
            int first = 0;
            while (first < state.versions.size()) {
                int above = nextHigher(state.versions.get(first), s);
                int end = first;
                while (end < state.versions.size() && nextHigher(state.versions.get(end), s) == above) {
                    end++;
                }
                if (above != -2) {
                    int stop = end < state.versions.size() ? state.versions.get(end).place : next();
                    many += stop > state.versions.get(first).place ? 1 : 0;
                }
                first = end;
            }
        }
        return many;
    }

    int area(int segment) {
        if (segment != -1 && !has(segment)) {
            return -2;
        }
        int many = 0;
        for (int x = 0; x <= 60; x++) {
            for (int y = 0; y <= 60; y++) {
                many += below(x, y) == segment && swept(x) ? 1 : 0;
            }
        }
        return many;
    }

    int largest() {
        int best = segments.isEmpty() ? -1 : 0;
        for (int s = 0; s < segments.size(); s++) {
            best = area(s) > area(best) ? s : best;
        }
        return best;
    }

    int hidden(int what) {
        int[] best = {-1, -1, -1};
        for (int x = 0; x <= 60; x++) {
            for (int y = 0; y <= 60; y++) {
                if (swept(x) && countAbove(x, y) > best[2]) {
                    best = new int[] {x, y, countAbove(x, y)};
                }
            }
        }
        return what < 0 || what > 2 ? -1 : best[what];
    }

    int seen(int segment, boolean is) {
        if ((segment != -1 && !has(segment)) || told.size() == 30) {
            return -1;
        }
        Told t = new Told();
        t.segment = segment;
        t.is = is;
        t.at = time;
        told.add(t);
        return told.size() - 1;
    }

    boolean untell(int number) {
        if (number < 0 || number >= told.size() || told.get(number).until != Integer.MAX_VALUE) {
            return false;
        }
        told.get(number).until = time;
        return true;
    }

    int later(int by) {
        if (by < 0 || by > 1000 || time + by > 100000) {
            return -1;
        }
        time += by;
        return time;
    }

    private List<Integer> fitting(int up, int k) {
        List<Integer> places = new ArrayList<>();
        for (int x = 0; x <= 60; x++) {
            boolean fits = true;
            for (Told t : told) {
                boolean counts = t.at <= k && !(t.until != Integer.MAX_VALUE && t.until <= k);
                fits &= !counts || (wholeRegion(x, up) == t.segment) == t.is;
            }
            if (fits) {
                places.add(x);
            }
        }
        return places;
    }

    private int wholeRegion(int x, int up) {
        List<Integer> in = new ArrayList<>();
        for (int s = 0; s < segments.size(); s++) {
            if (over(s, x)) {
                in.add(s);
            }
        }
        return region(in, x, up);
    }

    private boolean height(int up) {
        return up >= -9 && up <= 99;
    }

    int fits(int up, int k) {
        return height(up) ? fitting(up, k).size() : -1;
    }

    int sure(int up, int what, int k) {
        if (!height(up) || what < 0 || what > 1 || fitting(up, k).isEmpty()) {
            return -1;
        }
        List<Integer> all = fitting(up, k);
        return what == 0 ? all.get(0) : all.get(all.size() - 1);
    }

    int ask(int up, int what, int k) {
        if (!height(up) || what < 0 || what > 1 || fitting(up, k).isEmpty() || segments.isEmpty()) {
            return -1;
        }
        List<Integer> all = fitting(up, k);
        int best = -1;
        int fewest = 99;
        for (int s = 0; s < segments.size(); s++) {
            int yes = 0;
            for (int x : all) {
                yes += wholeRegion(x, up) == s ? 1 : 0;
            }
            int most = Math.max(yes, all.size() - yes);
            if (most < fewest) {
                best = s;
                fewest = most;
            }
        }
        return what == 0 ? best : fewest;
    }

    int about(int what) {
        int[] answers = {segments.size(), stampNow(), newest().place, bits(newest().in), state.nodes.size(), slots,
            undos.size(), redos.size(), told.size(), time, tape.length(), units, lying.size()};
        return what < 0 || what > 12 ? -1 : answers[what];
    }

    /** Reads a text down its grammar, and throws the first fault. */
    static final class Reading {
        private static final List<String> WORDS = List.of("seg", "at", "to", "weighs", "slots", "draw", "or", "and",
            "not", "number", "across", "width", "rise", "luck");
        final List<Segment> segments = new ArrayList<>();
        int slots = 3;
        int draw = 0;
        int units = 0;
        private final String text;
        private final List<String> once = new ArrayList<>();
        private int at = 0;
        private int place = 0;
        private String token = "";
        private int weighsAt = -1;

        Reading(String text) {
            this.text = text;
        }

        private boolean in(int i, char least, char most) {
            return i < text.length() && text.charAt(i) >= least && text.charAt(i) <= most;
        }

        /** The next token: "" at the end, "?" for what is none. */
        private void advance() {
            while (at < text.length() && (text.charAt(at) == ' ' || text.charAt(at) == '\n')) {
                at++;
            }
            place = at;
            if (in(at, 'a', 'z')) {
                while (in(at, 'a', 'z')) {
                    at++;
                }
                token = at - place > 8 ? "?" : text.substring(place, at);
            } else if (in(at, '0', '9')) {
                while (in(at, '0', '9')) {
                    at++;
                }
                token = at - place > 4 || in(at, 'a', 'z') ? "?" : text.substring(place, at);
            } else if (at == text.length()) {
                token = "";
            } else {
                token = ";()<>=+-*/%".indexOf(text.charAt(at)) < 0 ? "?" : text.substring(at, at + 1);
                at++;
            }
        }

        private void must(boolean can, int why) {
            if (!can) {
                throw new Fault(token.equals("?") ? 1 : why, place);
            }
        }

        private void take(String sign) {
            must(token.equals(sign), 2);
            advance();
        }

        private boolean isNumber() {
            return !token.isEmpty() && token.charAt(0) >= '0' && token.charAt(0) <= '9';
        }

        private int number(int least, int most) {
            must(isNumber(), 2);
            int n = Integer.parseInt(token);
            must(n >= least && n <= most, 4);
            return n;
        }

        void read() {
            advance();
            while (!token.isEmpty()) {
                must(List.of("seg", "weighs", "slots", "draw").contains(token), 2);
                must(!once.contains(token), 2);
                if (!token.equals("seg")) {
                    once.add(token);
                }
                line(token);
                take(";");
            }
        }

        private void line(String first) {
            if (first.equals("seg")) {
                must(segments.size() < 8, 2);
                advance();
                segment();
                return;
            }
            advance();
            if (first.equals("weighs")) {
                weighsAt = place;
                value(0, null);
            } else if (first.equals("slots")) {
                slots = number(1, 6);
                advance();
            } else {
                draw = number(0, 999);
                advance();
            }
        }

        private void segment() {
            Segment s = new Segment();
            must(!token.isEmpty() && !token.equals("?") && in(place, 'a', 'z') && !WORDS.contains(token), 2);
            for (Segment t : segments) {
                must(!t.name.equals(token), 3);
            }
            s.name = token;
            advance();
            take("at");
            s.x1 = number(0, 59);
            advance();
            s.y1 = number(0, 60);
            advance();
            take("to");
            s.x2 = number(s.x1 + 1, 60);
            advance();
            s.y2 = number(0, 60);
            for (Segment t : segments) {
                must(!touch(new int[] {s.x1, s.y1, s.x2, s.y2}, new int[] {t.x1, t.y1, t.x2, t.y2}), 5);
            }
            segments.add(s);
            advance();
        }

        List<Integer> weights() {
            List<Integer> all = new ArrayList<>();
            int luck = draw;
            for (int k = 0; k < segments.size(); k++) {
                luck = (luck * 137 + 71) % 1000;
                Segment s = segments.get(k);
                int[] of = {k, s.x1, s.x2 - s.x1, s.y2 - s.y1, luck % 100};
                if (weighsAt < 0) {
                    all.add(of[4]);
                } else {
                    int had = units;
                    units = 0;
                    at = weighsAt;
                    advance();
                    all.add(value(0, of));
                    units = had;
                }
            }
            return all;
        }

        /** Reads a formula from where the text stands; of is null while only faults are looked for. */
        private int value(int within, int[] of) {
            int v = both(within, of);
            while (token.equals("or")) {
                advance();
                int w = both(within, of);
                v = v != 0 || w != 0 ? 1 : 0;
            }
            return v;
        }

        private int both(int within, int[] of) {
            int v = one(within, of);
            while (token.equals("and")) {
                advance();
                int w = one(within, of);
                v = v != 0 && w != 0 ? 1 : 0;
            }
            return v;
        }

        private int one(int within, int[] of) {
            if (token.equals("not")) {
                must(within <= 6, 2);
                advance();
                return one(within + 1, of) == 0 ? 1 : 0;
            }
            int v = sum(within, of);
            String sign = token;
            if (sign.equals("<") || sign.equals(">") || sign.equals("=")) {
                advance();
                int w = sum(within, of);
                v = (sign.equals("<") ? v < w : sign.equals(">") ? v > w : v == w) ? 1 : 0;
            }
            return v;
        }

        private int sum(int within, int[] of) {
            int v = term(within, of);
            while (token.equals("+") || token.equals("-")) {
                boolean more = token.equals("+");
                advance();
                int w = term(within, of);
                v = more ? v + w : v - w;
            }
            return v;
        }

        private int term(int within, int[] of) {
            int v = unit(within, of);
            while (token.equals("*") || token.equals("/") || token.equals("%")) {
                String sign = token;
                advance();
                int w = unit(within, of);
                v = sign.equals("*") ? v * w : w == 0 ? 0 : sign.equals("/") ? v / w : v % w;
            }
            return v;
        }

        private int unit(int within, int[] of) {
            int word = List.of("number", "across", "width", "rise", "luck").indexOf(token);
            must(word >= 0 || isNumber() || token.equals("("), 2);
            must(units < 30, 2);
            units++;
            if (token.equals("(")) {
                must(within <= 6, 2);
                advance();
                int v = value(within + 1, of);
                take(")");
                return v;
            }
            int v = word < 0 ? Integer.parseInt(token) : of == null ? 0 : of[word];
            advance();
            return v;
        }
    }
}
