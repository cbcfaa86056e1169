/**
 * A search tree over a planar map swept from left to right. Every past version of it stays
 * readable: its nodes hold a few changes, each with its stamp, and are copied when there is no
 * room for one more. ../shared/DOC.md says what each call answers; README.md says how to use it.
 */
public final class StampMap {
    public static final int NONE = -1;

    private static final int IMPOSSIBLE = -2;
    private static final int TAPE_ROOM = 1600;
    private static final int FED_BYTES = 20;
    private static final int SEGMENT_ROOM = 8;
    private static final int FARTHEST = 60;
    private static final int LOWEST_UP = -9;
    private static final int HIGHEST_UP = 99;
    private static final int LAST_STAMP = 40;
    private static final int NODE_ROOM = SEGMENT_ROOM * LAST_STAMP;
    private static final int MOST_SLOTS = 6;
    private static final int USUAL_SLOTS = 3;
    private static final int SEEN_ROOM = 30;
    private static final int LONGEST_WAIT = 1000;
    private static final int LAST_TIME = 100000;
    private static final int LEFT = 0;
    private static final int RIGHT = 1;

    private final Row tape;
    private final Row lying;
    private final Plan draft;
    private final Plan plan;
    private final Lexer lexer;
    private final Reader reader;
    private final Tree tree;
    private final Store store;
    private final Store trial;
    private final Store firstBox;
    private final Store secondBox;
    private final Store thirdBox;
    private final Acts acts;
    private final Survey survey;
    private final Told told;

    public StampMap() {
        tape = new Row(TAPE_ROOM);
        lying = new Row(SEGMENT_ROOM);
        draft = new Plan();
        plan = new Plan();
        lexer = new Lexer(tape);
        reader = new Reader(lexer, draft);
        tree = new Tree(plan);
        store = new Store();
        trial = new Store();
        firstBox = new Store();
        secondBox = new Store();
        thirdBox = new Store();
        acts = new Acts(plan, tree, store);
        survey = new Survey(plan, tree, store);
        told = new Told(plan);
    }

    // ---- the map ----

    public int feed(int a, int b, int c, int d, int e) {
        if (tape.size() + FED_BYTES > TAPE_ROOM) {
            return NONE;
        }
        feedNumber(a);
        feedNumber(b);
        feedNumber(c);
        feedNumber(d);
        feedNumber(e);
        return tape.size();
    }

    private void feedNumber(int number) {
        for (int shift = 24; shift >= 0; shift -= 8) {
            tape.add((number >> shift) & 255);
        }
    }

    public int end(int n) {
        if (n < 0 || n > tape.size()) {
            return NONE;
        }
        tape.keep(n);
        return n;
    }

    public int map() {
        reader.readMap();
        tape.clear();
        if (lexer.failed()) {
            return NONE;
        }
        plan.takeFrom(draft);
        store.restart();
        firstBox.filled = false;
        secondBox.filled = false;
        thirdBox.filled = false;
        acts.forget();
        told.forget();
        lying.clear();
        return plan.count();
    }

    public int fault(int what) {
        switch (what) {
            case 0:
                return lexer.fault;
            case 1:
                return lexer.faultPlace;
            default:
                return NONE;
        }
    }

    public int segment(int segment, int what) {
        if (!plan.has(segment)) {
            return IMPOSSIBLE;
        }
        int newest = store.newest();
        switch (what) {
            case 0:
                return plan.fromAcross.at(segment);
            case 1:
                return plan.fromUp.at(segment);
            case 2:
                return plan.toAcross.at(segment);
            case 3:
                return plan.toUp.at(segment);
            case 4:
                return store.isIn(newest, segment) ? 1 : 0;
            case 5:
                return (store.cut.at(newest) >> segment) & 1;
            case 6:
                return store.has.at(segment);
            default:
                return IMPOSSIBLE;
        }
    }

    public int weight(int segment) {
        return plan.has(segment) ? plan.weights.at(segment) : 0;
    }

    public int higher(int segment, int other, int across) {
        if (segment == other || !plan.isOver(segment, across) || !plan.isOver(other, across)) {
            return NONE;
        }
        return plan.isHigher(segment, other) ? 1 : 0;
    }

    public int next() {
        return survey.nextEvent();
    }

    public int events() {
        return plan.eventPlaces.size();
    }

    // ---- acts ----

    public int sweep() {
        return acts.canSweep() && acts.doNew(Acts.SWEEP) ? countIn() : NONE;
    }

    public int cut(int segment) {
        return acts.canCut(segment) && acts.doNew(Acts.CUT + segment) ? countIn() : NONE;
    }

    public int raise(int segment) {
        return acts.canRaise(segment) && acts.doNew(Acts.RAISE + segment) ? countIn() : NONE;
    }

    private int countIn() {
        return Integer.bitCount(store.in.at(store.newest()));
    }

    public boolean undo() {
        return acts.takeBack();
    }

    public boolean redo() {
        return acts.doAgain();
    }

    public int image(int box) {
        if (box < 0 || box > 2) {
            return NONE;
        }
        Store kept = boxOf(box);
        kept.takeFrom(store);
        kept.filled = true;
        return store.newest();
    }

    public int back(int box) {
        if (box < 0 || box > 2) {
            return NONE;
        }
        Store kept = boxOf(box);
        if (!kept.filled) {
            return NONE;
        }
        store.takeFrom(kept);
        acts.forget();
        return store.newest();
    }

    private Store boxOf(int box) {
        return box == 0 ? firstBox : box == 1 ? secondBox : thirdBox;
    }

    // ---- versions and nodes ----

    public int version(int stamp, int what) {
        if (!store.hasStamp(stamp)) {
            return IMPOSSIBLE;
        }
        switch (what) {
            case 0:
                return store.place.at(stamp);
            case 1:
                return store.in.at(stamp);
            case 2:
                return store.root.at(stamp);
            case 3:
                survey.show(stamp);
                return tree.tallest;
            case 4:
                return store.cost.at(stamp);
            default:
                return IMPOSSIBLE;
        }
    }

    public int node(int node, int what) {
        if (!store.hasNode(node)) {
            return IMPOSSIBLE;
        }
        switch (what) {
            case 0:
                return store.owner.at(node);
            case 1:
                return store.made.at(node);
            case 2:
                return store.firstLeft.at(node);
            case 3:
                return store.firstRight.at(node);
            case 4:
                return store.used.at(node);
            case 5:
                return store.parentOf(node);
            case 6:
                return store.isThere(node) ? 1 : 0;
            default:
                return IMPOSSIBLE;
        }
    }

    public int change(int node, int change, int what) {
        if (!store.hasNode(node) || change < 0 || change >= store.used.at(node)) {
            return IMPOSSIBLE;
        }
        int slot = node * MOST_SLOTS + change;
        switch (what) {
            case 0:
                return store.changeStamp.at(slot);
            case 1:
                return store.changeSide.at(slot);
            case 2:
                return store.changeNode.at(slot);
            default:
                return IMPOSSIBLE;
        }
    }

    public int read(int node, int side, int stamp) {
        if (!store.hasNode(node) || !store.hasStamp(stamp) || stamp < store.made.at(node)) {
            return IMPOSSIBLE;
        }
        if (side != LEFT && side != RIGHT) {
            return IMPOSSIBLE;
        }
        return store.childOf(node, side, stamp);
    }

    public int row(int stamp) {
        lying.clear();
        if (!store.hasStamp(stamp)) {
            return NONE;
        }
        survey.show(stamp);
        lying.takeFrom(tree.ordered);
        return lying.size();
    }

    public int shape(int stamp) {
        lying.clear();
        if (!store.hasStamp(stamp)) {
            return NONE;
        }
        survey.show(stamp);
        lying.takeFrom(tree.parentsFirst);
        return tree.tallest;
    }

    public int lies(int i) {
        return i >= 0 && i < lying.size() ? lying.at(i) : IMPOSSIBLE;
    }

    // ---- points ----

    public int below(int across, int up) {
        return survey.find(across, up) ? survey.foundBelow() : IMPOSSIBLE;
    }

    public int above(int across, int up) {
        return survey.find(across, up) ? survey.foundAbove() : IMPOSSIBLE;
    }

    public int on(int across, int up) {
        if (!survey.find(across, up)) {
            return IMPOSSIBLE;
        }
        int segment = survey.foundBelow();
        return segment != NONE && plan.aheadOf(segment, across, up) == 0 ? 1 : 0;
    }

    public int depth(int across, int up) {
        lying.clear();
        if (!survey.find(across, up)) {
            return IMPOSSIBLE;
        }
        int segment = tree.root;
        for (int steps = 0; steps < SEGMENT_ROOM && segment != NONE; steps++) {
            lying.add(segment);
            boolean fartherUp = plan.aheadOf(segment, across, up) > 0;
            segment = fartherUp ? tree.left.at(segment) : tree.right.at(segment);
        }
        return lying.size();
    }

    public int gap(int across, int up, int what) {
        if (what < 0 || what > 3 || !survey.find(across, up)) {
            return NONE;
        }
        int segment = what < 2 ? survey.foundBelow() : survey.foundAbove();
        if (segment == NONE) {
            return NONE;
        }
        int upper = Math.abs(plan.aheadOf(segment, across, up));
        int lower = plan.width.at(segment);
        int part = what == 0 || what == 2 ? upper : lower;
        int common = commonPart(upper, lower);
        return common == 0 ? NONE : part / common;
    }

    private static int commonPart(int one, int other) {
        int greater = one;
        int less = other;
        for (int steps = 0; steps < 100 && less != 0; steps++) {
            int rest = greater % less;
            greater = less;
            less = rest;
        }
        return greater;
    }

    public int crossed(int across, int up) {
        return survey.find(across, up) ? survey.fartherUp : IMPOSSIBLE;
    }

    public int same(int across, int up, int across2, int up2) {
        if (!survey.find(across, up)) {
            return IMPOSSIBLE;
        }
        int region = survey.foundBelow();
        if (!survey.find(across2, up2)) {
            return IMPOSSIBLE;
        }
        return region == survey.foundBelow() ? 1 : 0;
    }

    // ---- versions compared ----

    public int unlike(int stamp, int other) {
        if (!store.hasStamp(stamp) || !store.hasStamp(other)) {
            return NONE;
        }
        return Integer.bitCount(store.in.at(stamp) ^ store.in.at(other));
    }

    public int shared(int stamp, int other) {
        if (!store.hasStamp(stamp) || !store.hasStamp(other)) {
            return NONE;
        }
        int common = 0;
        for (int segment = 0; segment < plan.count(); segment++) {
            int node = store.holderOf(segment, stamp);
            if (node != NONE && node == store.holderOf(segment, other)) {
                common++;
            }
        }
        return common;
    }

    public int written() {
        return store.slotsWritten();
    }

    public int copies(int segment) {
        return segment == NONE || plan.has(segment) ? store.copiesOf(segment) : IMPOSSIBLE;
    }

    public int dearest() {
        int best = NONE;
        for (int stamp = 1; stamp <= store.newest(); stamp++) {
            if (best == NONE || store.cost.at(stamp) > store.cost.at(best)) {
                best = stamp;
            }
        }
        return best;
    }

    public int paid() {
        int spent = store.copiesOf(NONE) * (plan.slots - 1);
        return Math.max(store.slotsWritten() - spent, 0);
    }

    public int credit() {
        int sum = 0;
        for (int segment = 0; segment < plan.count(); segment++) {
            int node = store.has.at(segment);
            sum += node == NONE ? 0 : store.used.at(node);
        }
        return sum;
    }

    public int law(int n) {
        if (n < 1 || n > MOST_SLOTS) {
            return NONE;
        }
        trial.restart();
        for (int stamp = 1; stamp <= store.newest(); stamp++) {
            survey.show(stamp);
            trial.grow(tree, store.place.at(stamp), store.in.at(stamp), 0, 0, n);
        }
        return trial.copiesOf(NONE);
    }

    public int busiest() {
        int best = NONE;
        for (int segment = 0; segment < plan.count(); segment++) {
            if (best == NONE || store.copiesOf(segment) > store.copiesOf(best)) {
                best = segment;
            }
        }
        return best;
    }

    public int widest() {
        int best = 0;
        for (int stamp = 1; stamp <= store.newest(); stamp++) {
            if (Integer.bitCount(store.in.at(stamp)) > Integer.bitCount(store.in.at(best))) {
                best = stamp;
            }
        }
        return best;
    }

    public int highest() {
        int best = 0;
        int most = 0;
        for (int stamp = 1; stamp <= store.newest(); stamp++) {
            survey.show(stamp);
            if (tree.tallest > most) {
                most = tree.tallest;
                best = stamp;
            }
        }
        return best;
    }

    public int stays(int segment) {
        if (!plan.has(segment)) {
            return NONE;
        }
        int many = 0;
        for (int stamp = 0; stamp <= store.newest(); stamp++) {
            many += store.isIn(stamp, segment) ? 1 : 0;
        }
        return many;
    }

    // ---- the map as it was swept ----

    public int sight(int segment, int what) {
        if (!plan.has(segment) || what < 0 || what > 1) {
            return NONE;
        }
        return survey.neighbours(segment, what == 0 ? 1 : -1);
    }

    public int trapezes() {
        return survey.countTrapezes();
    }

    public int area(int segment) {
        if (segment != NONE && !plan.has(segment)) {
            return IMPOSSIBLE;
        }
        survey.measure();
        return survey.areas.at(segment + 1);
    }

    public int largest() {
        survey.measure();
        int best = NONE;
        for (int segment = 0; segment < plan.count(); segment++) {
            if (best == NONE || survey.areas.at(segment + 1) > survey.areas.at(best + 1)) {
                best = segment;
            }
        }
        return best;
    }

    public int hidden(int what) {
        if (!survey.isSwept(0)) {
            return NONE;
        }
        switch (what) {
            case 0:
                survey.hide();
                return survey.hiddenAcross;
            case 1:
                survey.hide();
                return survey.hiddenUp;
            case 2:
                survey.hide();
                return survey.hiddenBy;
            default:
                return NONE;
        }
    }

    // ---- what is seen of a point whose place across is not known ----

    public int seen(int segment, boolean is) {
        if (segment != NONE && !plan.has(segment)) {
            return NONE;
        }
        return told.tell(segment, is);
    }

    public boolean untell(int seen) {
        return told.takeBack(seen);
    }

    public int later(int by) {
        return told.goOn(by);
    }

    public int fits(int up, int k) {
        return told.gather(up, k) ? told.fitting.size() : NONE;
    }

    public int sure(int up, int what, int k) {
        if (what < 0 || what > 1 || !told.gather(up, k)) {
            return NONE;
        }
        return told.fitting.at(what == 0 ? 0 : told.fitting.size() - 1);
    }

    public int ask(int up, int what, int k) {
        if (what < 0 || what > 1 || !told.gather(up, k)) {
            return NONE;
        }
        int best = told.bestQuestion();
        return what == 0 || best == NONE ? best : told.leftBy(best);
    }

    public int about(int what) {
        int newest = store.newest();
        switch (what) {
            case 0:
                return plan.count();
            case 1:
                return newest;
            case 2:
                return store.place.at(newest);
            case 3:
                return store.in.at(newest);
            case 4:
                return store.owner.size();
            case 5:
                return plan.slots;
            case 6:
                return acts.done;
            case 7:
                return acts.kept.size() - acts.done;
            case 8:
                return told.toldOf.size();
            case 9:
                return told.time;
            case 10:
                return tape.size();
            case 11:
                return plan.units;
            case 12:
                return lying.size();
            default:
                return NONE;
        }
    }

    /** Numbers in a row of limited room: what lies outside is NONE, and is never written. */
    private static final class Row {
        private final int[] cells;
        private int count;

        Row(int room) {
            cells = new int[Math.max(room, 0)];
            count = 0;
        }

        int size() {
            return count;
        }

        int at(int place) {
            return place >= 0 && place < count && place < cells.length ? cells[place] : NONE;
        }

        void put(int place, int number) {
            if (place >= 0 && place < count && place < cells.length) {
                cells[place] = number;
            }
        }

        void add(int number) {
            if (count >= 0 && count < cells.length) {
                cells[count] = number;
                count++;
            }
        }

        void addUnlessNone(int number) {
            if (number != NONE) {
                add(number);
            }
        }

        int takeLast() {
            int last = at(count - 1);
            keep(count - 1);
            return last;
        }

        int last() {
            return at(count - 1);
        }

        void keep(int first) {
            if (first >= 0 && first < count) {
                count = first;
            }
        }

        void clear() {
            count = 0;
        }

        void fill(int many, int number) {
            count = 0;
            for (int i = 0; i < many; i++) {
                add(number);
            }
        }

        void takeFrom(Row other) {
            count = 0;
            for (int i = 0; i < other.count; i++) {
                add(other.at(i));
            }
        }
    }

    /** Parts the text on the tape into tokens; holds the first fault that was found. */
    private static final class Lexer {
        // Kinds of tokens; a sign's kind is the sign itself (37 .. 62).
        static final int END = 0;
        static final int BAD = 1;
        static final int NUMBER = 2;
        static final int NEW_NAME = 3;
        static final int TOLD_NAME = 4;
        // The words that stand for themselves, in the order of WORDS.
        static final int SEG = 100;
        static final int AT = 101;
        static final int TO = 102;
        static final int WEIGHS = 103;
        static final int SLOTS = 104;
        static final int DRAW = 105;
        static final int OR = 106;
        static final int AND = 107;
        static final int NOT = 108;
        static final int ITS_NUMBER = 109;
        static final int ACROSS = 110;
        static final int WIDTH = 111;
        static final int RISE = 112;
        static final int LUCK = 113;

        private static final String WORDS =
                "seg at to weighs slots draw or and not number across width rise luck ";
        private static final int WORD_COUNT = 14;
        private static final String SIGNS = ";()<>=+-*/%";
        private static final int LONGEST_WORD = 8;
        private static final int MOST_DIGITS = 4;

        int kind;
        int value;
        int fault;
        int faultPlace;
        private final Row tape;
        private final long[] words;
        private int wordCount;
        private long word;
        private int place;
        private int reached;

        Lexer(Row tape) {
            this.tape = tape;
            words = new long[WORD_COUNT + SEGMENT_ROOM];
            faultPlace = NONE;
            long code = 0;
            for (int i = 0; i < WORDS.length(); i++) {
                char letter = WORDS.charAt(i);
                if (letter == ' ') {
                    addWord(code);
                    code = 0;
                } else {
                    code = spell(code, letter);
                }
            }
        }

        // Five bits a letter: eight letters, the longest word, stay apart in a long.
        private static long spell(long code, int letter) {
            return code * 32 + (letter - 'a' + 1);
        }

        private void addWord(long code) {
            if (wordCount >= 0 && wordCount < words.length) {
                words[wordCount] = code;
                wordCount++;
            }
        }

        void restart() {
            wordCount = Math.min(wordCount, WORD_COUNT);
            fault = 0;
            faultPlace = NONE;
            reached = 0;
            step();
        }

        void addName() {
            addWord(word);
        }

        boolean failed() {
            return fault != 0;
        }

        // No other fault can be at the place of what is no token: that one is the least.
        void fail(int why) {
            if (fault == 0) {
                fault = kind == BAD ? 1 : why;
                faultPlace = place;
            }
        }

        // Behind a fault nothing is read: only the first one counts.
        void step() {
            if (fault != 0) {
                return;
            }
            while (reached < tape.size() && isBlank(tape.at(reached))) {
                reached++;
            }
            place = reached;
            int sign = tape.at(reached);
            if (reached >= tape.size()) {
                kind = END;
            } else if (isLetter(sign)) {
                stepWord();
            } else if (isDigit(sign)) {
                stepNumber();
            } else if (SIGNS.indexOf((char) sign) >= 0) {
                kind = sign;
                reached++;
            } else {
                kind = BAD;
            }
        }

        private void stepWord() {
            word = 0;
            while (reached < tape.size() && isLetter(tape.at(reached))) {
                word = spell(word, tape.at(reached));
                reached++;
            }
            kind = reached - place > LONGEST_WORD ? BAD : kindOfWord();
        }

        private int kindOfWord() {
            for (int i = 0; i < wordCount && i < words.length; i++) {
                if (words[i] == word) {
                    return i < WORD_COUNT ? SEG + i : TOLD_NAME;
                }
            }
            return NEW_NAME;
        }

        private void stepNumber() {
            value = 0;
            while (reached < tape.size() && isDigit(tape.at(reached))) {
                value = value * 10 + (tape.at(reached) - '0');
                reached++;
            }
            boolean tooLong = reached - place > MOST_DIGITS;
            kind = tooLong || isLetter(tape.at(reached)) ? BAD : NUMBER;
        }

        private static boolean isBlank(int sign) {
            return sign == 32 || sign == 10;
        }

        private static boolean isLetter(int sign) {
            return sign >= 'a' && sign <= 'z';
        }

        private static boolean isDigit(int sign) {
            return sign >= '0' && sign <= '9';
        }
    }

    /** Reads a map's lines into a draft, which is of use only if the lexer has no fault then. */
    private static final class Reader {
        private static final int MISPLACED = 2;
        private static final int TOLD_ALREADY = 3;
        private static final int CANNOT_BE = 4;
        private static final int TOUCHES = 5;

        private final Lexer lexer;
        private final Plan draft;
        private final FormulaReader formulas;
        private boolean weighsTold;
        private boolean slotsTold;
        private boolean drawTold;

        Reader(Lexer lexer, Plan draft) {
            this.lexer = lexer;
            this.draft = draft;
            formulas = new FormulaReader(lexer);
        }

        void readMap() {
            draft.clear();
            weighsTold = false;
            slotsTold = false;
            drawTold = false;
            lexer.restart();
            boolean reads = lexer.kind != Lexer.END;
            for (int lines = 0; lines <= TAPE_ROOM && reads; lines++) {
                if (lexer.kind == Lexer.SEG && draft.count() < SEGMENT_ROOM) {
                    readSegment();
                } else if (lexer.kind == Lexer.WEIGHS && !weighsTold) {
                    weighsTold = true;
                    lexer.step();
                    formulas.readFormula(draft.formula);
                } else if (lexer.kind == Lexer.SLOTS && !slotsTold) {
                    slotsTold = true;
                    lexer.step();
                    draft.slots = number(1, MOST_SLOTS);
                    lexer.step();
                } else if (lexer.kind == Lexer.DRAW && !drawTold) {
                    drawTold = true;
                    lexer.step();
                    draft.draw = number(0, 999);
                    lexer.step();
                } else {
                    lexer.fail(MISPLACED);
                }
                expect(';');
                reads = !lexer.failed() && lexer.kind != Lexer.END;
            }
            if (!lexer.failed()) {
                draft.settle();
            }
        }

        private void readSegment() {
            lexer.step();
            newName();
            expect(Lexer.AT);
            int across = number(0, FARTHEST - 1);
            lexer.step();
            int up = number(0, FARTHEST);
            lexer.step();
            expect(Lexer.TO);
            int across2 = number(across + 1, FARTHEST);
            lexer.step();
            int up2 = number(0, FARTHEST);
            if (lexer.failed()) {
                return;
            }
            draft.addSegment(across, up, across2, up2);
            if (draft.lastMeetsAnother()) {
                lexer.fail(TOUCHES);
            }
            lexer.step();
        }

        private void newName() {
            if (lexer.kind == Lexer.TOLD_NAME) {
                lexer.fail(TOLD_ALREADY);
            } else if (lexer.kind != Lexer.NEW_NAME) {
                lexer.fail(MISPLACED);
            } else {
                lexer.addName();
            }
            lexer.step();
        }

        private void expect(int kind) {
            if (lexer.kind != kind) {
                lexer.fail(MISPLACED);
            }
            lexer.step();
        }

        // Stays at the number, so that a fault behind it can still be told at its place.
        private int number(int least, int most) {
            if (lexer.kind != Lexer.NUMBER) {
                lexer.fail(MISPLACED);
            } else if (lexer.value < least || lexer.value > most) {
                lexer.fail(CANNOT_BE);
            }
            return lexer.value;
        }
    }

    /** Reads a formula, sign by sign; what waits for its right side stands in a row of its own. */
    private static final class FormulaReader {
        private static final int MISPLACED = 2;
        // A map has one formula, so that its limit of 30 is met ahead of 60 units in all.
        private static final int MOST_UNITS = 30;
        private static final int MOST_WITHIN = 6;
        private static final int WAITING_ROOM = 64;
        // What is due next in the text.
        private static final int ONE_DUE = 0;
        private static final int UNIT_DUE = 1;
        private static final int SIGN_DUE = 2;
        private static final int NOTHING_DUE = 3;
        // How closely signs bind; an open bracket (0) is passed by none.
        private static final int OR_RANK = 1;
        private static final int AND_RANK = 2;
        private static final int NOT_RANK = 3;
        private static final int RELATION_RANK = 4;
        private static final int SUM_RANK = 5;
        private static final int TERM_RANK = 6;

        private final Lexer lexer;
        private final Row waiting;
        private int within;

        FormulaReader(Lexer lexer) {
            this.lexer = lexer;
            waiting = new Row(WAITING_ROOM);
        }

        void readFormula(Formula formula) {
            formula.clear();
            waiting.clear();
            within = 0;
            int due = ONE_DUE;
            for (int steps = 0; steps <= TAPE_ROOM && due != NOTHING_DUE; steps++) {
                due = due == SIGN_DUE ? readSign(formula) : readUnit(formula, due);
                if (lexer.failed()) {
                    return;
                }
            }
        }

        private int readUnit(Formula formula, int due) {
            int kind = lexer.kind;
            if (kind == Lexer.NOT && due == ONE_DUE) {
                open(kind);
                return ONE_DUE;
            }
            if (formula.units >= MOST_UNITS || !beginsUnit(kind)) {
                lexer.fail(MISPLACED);
                return NOTHING_DUE;
            }
            formula.units++;
            if (kind == '(') {
                open(kind);
                return ONE_DUE;
            }
            formula.add(kind == Lexer.NUMBER ? Formula.LITERAL + lexer.value : kind);
            lexer.step();
            return SIGN_DUE;
        }

        private static boolean beginsUnit(int kind) {
            boolean isWord = kind >= Lexer.ITS_NUMBER && kind <= Lexer.LUCK;
            return isWord || kind == Lexer.NUMBER || kind == '(';
        }

        private void open(int kind) {
            if (within > MOST_WITHIN) {
                lexer.fail(MISPLACED);
                return;
            }
            within++;
            waiting.add(kind);
            lexer.step();
        }

        private int readSign(Formula formula) {
            int kind = lexer.kind;
            int rank = rankOf(kind);
            if (kind == ';' || kind == ')') {
                return close(formula, kind);
            }
            // One relation waits for the end of its "one": a second one finds it there.
            settle(formula, rank == RELATION_RANK ? SUM_RANK : rank);
            boolean second = rank == RELATION_RANK && rankOf(waiting.last()) == RELATION_RANK;
            if (rank == 0 || rank == NOT_RANK || second) {
                lexer.fail(MISPLACED);
                return NOTHING_DUE;
            }
            waiting.add(kind);
            lexer.step();
            return rank <= AND_RANK ? ONE_DUE : UNIT_DUE;
        }

        private int close(Formula formula, int kind) {
            settle(formula, OR_RANK);
            boolean opened = waiting.size() > 0;
            if (opened != (kind == ')')) {
                lexer.fail(MISPLACED);
                return NOTHING_DUE;
            }
            if (kind == ';') {
                return NOTHING_DUE;
            }
            waiting.takeLast();
            within--;
            lexer.step();
            return SIGN_DUE;
        }

        private void settle(Formula formula, int leastRank) {
            for (int i = 0; i < WAITING_ROOM; i++) {
                int rank = rankOf(waiting.last());
                if (rank == 0 || rank < leastRank) {
                    return;
                }
                formula.add(waiting.takeLast());
                within -= rank == NOT_RANK ? 1 : 0;
            }
        }

        private static int rankOf(int kind) {
            switch (kind) {
                case Lexer.OR:
                    return OR_RANK;
                case Lexer.AND:
                    return AND_RANK;
                case Lexer.NOT:
                    return NOT_RANK;
                case '<':
                case '>':
                case '=':
                    return RELATION_RANK;
                case '+':
                case '-':
                    return SUM_RANK;
                case '*':
                case '/':
                case '%':
                    return TERM_RANK;
                default:
                    return 0;
            }
        }
    }

    /** A formula as a row of steps, each behind what it needs: kinds of tokens, or literals. */
    private static final class Formula {
        static final int LITERAL = 1000;
        private static final int STEP_ROOM = 300;
        private static final int STACK_ROOM = 64;

        int units;
        private final Row steps;
        private final Row stack;

        Formula() {
            steps = new Row(STEP_ROOM);
            stack = new Row(STACK_ROOM);
        }

        void clear() {
            units = 0;
            steps.clear();
        }

        void add(int step) {
            steps.add(step);
        }

        int valueFor(int number, int across, int width, int rise, int luck) {
            stack.clear();
            for (int i = 0; i < steps.size(); i++) {
                int step = steps.at(i);
                switch (step) {
                    case Lexer.ITS_NUMBER:
                        stack.add(number);
                        break;
                    case Lexer.ACROSS:
                        stack.add(across);
                        break;
                    case Lexer.WIDTH:
                        stack.add(width);
                        break;
                    case Lexer.RISE:
                        stack.add(rise);
                        break;
                    case Lexer.LUCK:
                        stack.add(luck);
                        break;
                    case Lexer.NOT:
                        stack.add(stack.takeLast() == 0 ? 1 : 0);
                        break;
                    default:
                        doStep(step);
                        break;
                }
            }
            return stack.last();
        }

        private void doStep(int step) {
            if (step >= LITERAL) {
                stack.add(step - LITERAL);
                return;
            }
            int second = stack.takeLast();
            int first = stack.takeLast();
            stack.add(joined(step, first, second));
        }

        private static int joined(int sign, int first, int second) {
            switch (sign) {
                case Lexer.OR:
                    return first != 0 || second != 0 ? 1 : 0;
                case Lexer.AND:
                    return first != 0 && second != 0 ? 1 : 0;
                case '<':
                    return first < second ? 1 : 0;
                case '>':
                    return first > second ? 1 : 0;
                case '=':
                    return first == second ? 1 : 0;
                case '+':
                    return first + second;
                case '-':
                    return first - second;
                case '*':
                    return first * second;
                case '/':
                    return second == 0 ? 0 : first / second;
                case '%':
                    return second == 0 ? 0 : first % second;
                default:
                    return 0;
            }
        }
    }

    /** The segments of a map, what they weigh, and where they stand to each other. */
    private static final class Plan {
        final Row fromAcross;
        final Row fromUp;
        final Row toAcross;
        final Row toUp;
        final Row width;
        final Row rise;
        // Of each segment the bits of those that are lower wherever both are over a place.
        final Row lowerOnes;
        final Row weights;
        final Row eventPlaces;
        final Formula formula;
        int units;
        int slots;
        int draw;

        Plan() {
            fromAcross = new Row(SEGMENT_ROOM);
            fromUp = new Row(SEGMENT_ROOM);
            toAcross = new Row(SEGMENT_ROOM);
            toUp = new Row(SEGMENT_ROOM);
            width = new Row(SEGMENT_ROOM);
            rise = new Row(SEGMENT_ROOM);
            lowerOnes = new Row(SEGMENT_ROOM);
            weights = new Row(SEGMENT_ROOM);
            eventPlaces = new Row(2 * SEGMENT_ROOM);
            formula = new Formula();
            clear();
        }

        void clear() {
            fromAcross.clear();
            fromUp.clear();
            toAcross.clear();
            toUp.clear();
            width.clear();
            rise.clear();
            lowerOnes.clear();
            weights.clear();
            eventPlaces.clear();
            formula.clear();
            formula.add(Lexer.LUCK);
            units = 0;
            slots = USUAL_SLOTS;
            draw = 0;
        }

        /** Takes all but what only the reading of a map needs: its formula and its draw. */
        void takeFrom(Plan other) {
            fromAcross.takeFrom(other.fromAcross);
            fromUp.takeFrom(other.fromUp);
            toAcross.takeFrom(other.toAcross);
            toUp.takeFrom(other.toUp);
            width.takeFrom(other.width);
            rise.takeFrom(other.rise);
            lowerOnes.takeFrom(other.lowerOnes);
            weights.takeFrom(other.weights);
            eventPlaces.takeFrom(other.eventPlaces);
            units = other.units;
            slots = other.slots;
        }

        int count() {
            return fromAcross.size();
        }

        boolean has(int segment) {
            return segment >= 0 && segment < fromAcross.size();
        }

        void addSegment(int across, int up, int across2, int up2) {
            fromAcross.add(across);
            fromUp.add(up);
            toAcross.add(across2);
            toUp.add(up2);
            width.add(across2 - across);
            rise.add(up2 - up);
        }

        /** What comes of all lines together: draw, for one, may be told behind weighs. */
        void settle() {
            units = formula.units;
            weigh();
            for (int k = 0; k < count(); k++) {
                lowerOnes.add(findLowerOnes(k));
            }
            for (int across = 0; across <= FARTHEST; across++) {
                if (isEvent(across)) {
                    eventPlaces.add(across);
                }
            }
        }

        private void weigh() {
            int luck = draw;
            for (int k = 0; k < count(); k++) {
                luck = (luck * 137 + 71) % 1000;
                int across = fromAcross.at(k);
                weights.add(formula.valueFor(k, across, width.at(k), rise.at(k), luck % 100));
            }
        }

        // Segments do not cross: who is higher where both begin is so as long as both last.
        private int findLowerOnes(int segment) {
            int bits = 0;
            for (int k = 0; k < count(); k++) {
                int start = Math.max(fromAcross.at(segment), fromAcross.at(k));
                if (k != segment && isOver(segment, start) && isOver(k, start)) {
                    int farther = comparedAt(segment, k, start);
                    boolean isLower = farther == 0 ? isSteeper(segment, k) : farther > 0;
                    bits |= isLower ? 1 << k : 0;
                }
            }
            return bits;
        }

        private boolean isSteeper(int one, int other) {
            return rise.at(one) * width.at(other) > rise.at(other) * width.at(one);
        }

        private boolean isEvent(int across) {
            for (int k = 0; k < count(); k++) {
                if (fromAcross.at(k) == across || toAcross.at(k) == across) {
                    return true;
                }
            }
            return false;
        }

        boolean isOver(int segment, int across) {
            return has(segment) && fromAcross.at(segment) <= across && across < toAcross.at(segment);
        }

        /** How far a segment is above a point, straight up, taken as often as it is wide. */
        int aheadOf(int segment, int across, int up) {
            int along = rise.at(segment) * (across - fromAcross.at(segment));
            return (fromUp.at(segment) - up) * width.at(segment) + along;
        }

        /** The least whole height at a place that is not lower than a segment is there. */
        int ceilingOf(int segment, int across) {
            int wide = width.at(segment);
            int back = rise.at(segment) * (fromAcross.at(segment) - across);
            return wide < 1 ? NONE : fromUp.at(segment) - Math.floorDiv(back, wide);
        }

        /** Above 0 if of two segments the first is farther up at a place, 0 if both are alike. */
        private int comparedAt(int one, int other, int across) {
            int first = aheadOf(one, across, 0) * width.at(other);
            int second = aheadOf(other, across, 0) * width.at(one);
            return Integer.compare(first, second);
        }

        /** Of two that are over one place. */
        boolean isHigher(int one, int other) {
            return other >= 0 && other < SEGMENT_ROOM && ((lowerOnes.at(one) >> other) & 1) != 0;
        }

        boolean lastMeetsAnother() {
            int last = count() - 1;
            for (int k = 0; k < last; k++) {
                if (meet(k, last)) {
                    return true;
                }
            }
            return false;
        }

        // Both are straight over the stretch that they share, so its two ends tell all.
        private boolean meet(int one, int other) {
            int start = Math.max(fromAcross.at(one), fromAcross.at(other));
            int stop = Math.min(toAcross.at(one), toAcross.at(other));
            if (start >= stop) {
                return false;
            }
            int first = comparedAt(one, other, start);
            int last = comparedAt(one, other, stop);
            if (first == 0) {
                return last == 0 || fromAcross.at(one) != fromAcross.at(other);
            }
            if (last == 0) {
                return toAcross.at(one) != toAcross.at(other);
            }
            return first != last;
        }

        /** Those that are in behind the event at a place, of those that were in ahead of it. */
        int inBehind(int in, int across) {
            int bits = in;
            for (int k = 0; k < count(); k++) {
                if (fromAcross.at(k) == across) {
                    bits |= 1 << k;
                } else if (toAcross.at(k) == across) {
                    bits &= ~(1 << k);
                }
            }
            return bits;
        }

        /** The region of a point in the whole map, swept to its end, with nothing cut. */
        int regionOf(int across, int up) {
            int best = NONE;
            for (int k = 0; k < count(); k++) {
                if (isOver(k, across) && aheadOf(k, across, up) <= 0
                        && (best == NONE || isHigher(k, best))) {
                    best = k;
                }
            }
            return best;
        }
    }

    /** The tree of one set of segments that are over one place; made anew by each build. */
    private static final class Tree {
        final Row ordered;
        final Row left;
        final Row right;
        final Row parentsFirst;
        // Right ahead of left, so that from its end on each is behind its subtrees, left first.
        final Row childrenLast;
        int root;
        int tallest;
        private final Plan plan;
        private final Row waiting;
        private final Row heights;

        Tree(Plan plan) {
            this.plan = plan;
            ordered = new Row(SEGMENT_ROOM);
            left = new Row(SEGMENT_ROOM);
            right = new Row(SEGMENT_ROOM);
            parentsFirst = new Row(SEGMENT_ROOM);
            childrenLast = new Row(SEGMENT_ROOM);
            waiting = new Row(SEGMENT_ROOM);
            heights = new Row(SEGMENT_ROOM);
            root = NONE;
        }

        void build(int in) {
            order(in);
            join();
            list(parentsFirst, right, left);
            list(childrenLast, left, right);
            measureHeights();
        }

        private void order(int in) {
            ordered.fill(Integer.bitCount(in), NONE);
            for (int k = 0; k < SEGMENT_ROOM; k++) {
                if (((in >> k) & 1) != 0) {
                    ordered.put(Integer.bitCount(plan.lowerOnes.at(k) & in), k);
                }
            }
        }

        // What waits is the way from the root along the right: a heavier one goes in between.
        private void join() {
            left.fill(SEGMENT_ROOM, NONE);
            right.fill(SEGMENT_ROOM, NONE);
            waiting.clear();
            for (int i = 0; i < ordered.size(); i++) {
                int segment = ordered.at(i);
                int passed = NONE;
                for (int k = 0; k < SEGMENT_ROOM && isHeavier(segment, waiting.last()); k++) {
                    passed = waiting.takeLast();
                }
                left.put(segment, passed);
                right.put(waiting.last(), segment);
                waiting.add(segment);
            }
            root = waiting.at(0);
        }

        private boolean isHeavier(int one, int other) {
            if (other == NONE) {
                return false;
            }
            int first = plan.weights.at(one);
            int second = plan.weights.at(other);
            return first > second || (first == second && one < other);
        }

        // Each ahead of its subtrees, and of these that first which was put off last.
        private void list(Row listed, Row laterSide, Row soonerSide) {
            listed.clear();
            waiting.clear();
            waiting.addUnlessNone(root);
            for (int i = 0; i < SEGMENT_ROOM && waiting.size() > 0; i++) {
                int segment = waiting.takeLast();
                listed.add(segment);
                waiting.addUnlessNone(laterSide.at(segment));
                waiting.addUnlessNone(soonerSide.at(segment));
            }
        }

        private void measureHeights() {
            heights.fill(SEGMENT_ROOM, 0);
            tallest = 0;
            for (int i = childrenLast.size() - 1; i >= 0; i--) {
                int segment = childrenLast.at(i);
                int below = Math.max(heights.at(left.at(segment)), heights.at(right.at(segment)));
                heights.put(segment, Math.max(below, 0) + 1);
                tallest = Math.max(below, 0) + 1;
            }
        }
    }

    /** All versions and nodes that there are. */
    private static final class Store {
        final Row place;
        final Row in;
        final Row cut;
        final Row event;
        final Row root;
        final Row cost;
        final Row owner;
        final Row made;
        final Row firstLeft;
        final Row firstRight;
        final Row used;
        final Row copied;
        final Row changeStamp;
        final Row changeSide;
        final Row changeNode;
        final Row has;
        boolean filled;

        Store() {
            place = new Row(LAST_STAMP + 1);
            in = new Row(LAST_STAMP + 1);
            cut = new Row(LAST_STAMP + 1);
            event = new Row(LAST_STAMP + 1);
            root = new Row(LAST_STAMP + 1);
            cost = new Row(LAST_STAMP + 1);
            owner = new Row(NODE_ROOM);
            made = new Row(NODE_ROOM);
            firstLeft = new Row(NODE_ROOM);
            firstRight = new Row(NODE_ROOM);
            used = new Row(NODE_ROOM);
            copied = new Row(NODE_ROOM);
            changeStamp = new Row(NODE_ROOM * MOST_SLOTS);
            changeSide = new Row(NODE_ROOM * MOST_SLOTS);
            changeNode = new Row(NODE_ROOM * MOST_SLOTS);
            has = new Row(SEGMENT_ROOM);
            restart();
        }

        void restart() {
            keepVersions(0);
            keepNodes(0);
            has.fill(SEGMENT_ROOM, NONE);
            addVersion(0, 0, 0, 0, NONE, 0);
        }

        private void addVersion(int across, int ins, int cuts, int events, int top, int price) {
            place.add(across);
            in.add(ins);
            cut.add(cuts);
            event.add(events);
            root.add(top);
            cost.add(price);
        }

        private void keepVersions(int many) {
            place.keep(many);
            in.keep(many);
            cut.keep(many);
            event.keep(many);
            root.keep(many);
            cost.keep(many);
        }

        private void keepNodes(int many) {
            owner.keep(many);
            made.keep(many);
            firstLeft.keep(many);
            firstRight.keep(many);
            used.keep(many);
            copied.keep(many);
            changeStamp.keep(many * MOST_SLOTS);
            changeSide.keep(many * MOST_SLOTS);
            changeNode.keep(many * MOST_SLOTS);
        }

        void takeFrom(Store other) {
            place.takeFrom(other.place);
            in.takeFrom(other.in);
            cut.takeFrom(other.cut);
            event.takeFrom(other.event);
            root.takeFrom(other.root);
            cost.takeFrom(other.cost);
            owner.takeFrom(other.owner);
            made.takeFrom(other.made);
            firstLeft.takeFrom(other.firstLeft);
            firstRight.takeFrom(other.firstRight);
            used.takeFrom(other.used);
            copied.takeFrom(other.copied);
            changeStamp.takeFrom(other.changeStamp);
            changeSide.takeFrom(other.changeSide);
            changeNode.takeFrom(other.changeNode);
            has.takeFrom(other.has);
        }

        int newest() {
            return place.size() - 1;
        }

        boolean hasStamp(int stamp) {
            return stamp >= 0 && stamp < place.size();
        }

        boolean hasNode(int node) {
            return node >= 0 && node < owner.size();
        }

        boolean isIn(int stamp, int segment) {
            return segment >= 0 && segment < SEGMENT_ROOM && ((in.at(stamp) >> segment) & 1) != 0;
        }

        /** The next version: a tree, built already, its place and what is in, cut and next. */
        void grow(Tree tree, int across, int ins, int cuts, int events, int slots) {
            int price = 0;
            for (int i = tree.childrenLast.size() - 1; i >= 0; i--) {
                int segment = tree.childrenLast.at(i);
                int left = has.at(tree.left.at(segment));
                int right = has.at(tree.right.at(segment));
                price += adapt(segment, left, right, slots);
            }
            addVersion(across, ins, cuts, events, has.at(tree.root), price);
            for (int segment = 0; segment < SEGMENT_ROOM; segment++) {
                if (!isIn(newest(), segment)) {
                    has.put(segment, NONE);
                }
            }
        }

        // Nodes keep what they have if they can: how many were made, slots written.
        private int adapt(int segment, int left, int right, int slots) {
            int ahead = newest();
            if (!isIn(ahead, segment)) {
                make(segment, left, right, 0);
                return 1;
            }
            int node = has.at(segment);
            boolean leftChanges = childOf(node, LEFT, ahead) != left;
            boolean rightChanges = childOf(node, RIGHT, ahead) != right;
            int changes = (leftChanges ? 1 : 0) + (rightChanges ? 1 : 0);
            if (changes > 0 && used.at(node) + changes > slots) {
                make(segment, left, right, 1);
                return 1;
            }
            if (leftChanges) {
                write(node, LEFT, left);
            }
            if (rightChanges) {
                write(node, RIGHT, right);
            }
            return changes;
        }

        private void make(int segment, int left, int right, int isCopy) {
            has.put(segment, owner.size());
            owner.add(segment);
            made.add(newest() + 1);
            firstLeft.add(left);
            firstRight.add(right);
            used.add(0);
            copied.add(isCopy);
            for (int slot = 0; slot < MOST_SLOTS; slot++) {
                changeStamp.add(NONE);
                changeSide.add(NONE);
                changeNode.add(NONE);
            }
        }

        private void write(int node, int side, int child) {
            int slot = node * MOST_SLOTS + used.at(node);
            changeStamp.put(slot, newest() + 1);
            changeSide.put(slot, side);
            changeNode.put(slot, child);
            used.put(node, used.at(node) + 1);
        }

        int childOf(int node, int side, int stamp) {
            for (int i = used.at(node) - 1; i >= 0; i--) {
                int slot = node * MOST_SLOTS + i;
                if (changeSide.at(slot) == side && changeStamp.at(slot) <= stamp) {
                    return changeNode.at(slot);
                }
            }
            return side == LEFT ? firstLeft.at(node) : firstRight.at(node);
        }

        /** Takes the newest version back, with the nodes made and the slots written for it. */
        void shrink() {
            int stamp = newest();
            if (stamp < 1) {
                return;
            }
            int older = 0;
            while (older < made.size() && made.at(older) < stamp) {
                older++;
            }
            keepNodes(older);
            for (int node = 0; node < older; node++) {
                used.put(node, usedAhead(node, stamp));
            }
            keepVersions(stamp);
            for (int segment = 0; segment < SEGMENT_ROOM; segment++) {
                has.put(segment, holderOf(segment, stamp - 1));
            }
        }

        private int usedAhead(int node, int stamp) {
            int many = 0;
            while (many < used.at(node) && changeStamp.at(node * MOST_SLOTS + many) < stamp) {
                many++;
            }
            return many;
        }

        /** The node that a segment has in a version: the last that was made for it by then. */
        int holderOf(int segment, int stamp) {
            if (!isIn(stamp, segment)) {
                return NONE;
            }
            for (int node = owner.size() - 1; node >= 0; node--) {
                if (owner.at(node) == segment && made.at(node) <= stamp) {
                    return node;
                }
            }
            return NONE;
        }

        boolean isThere(int node) {
            return hasNode(node) && has.at(owner.at(node)) == node;
        }

        int parentOf(int node) {
            int stamp = newest();
            for (int segment = 0; segment < SEGMENT_ROOM; segment++) {
                int parent = has.at(segment);
                if (parent != NONE && (childOf(parent, LEFT, stamp) == node
                        || childOf(parent, RIGHT, stamp) == node)) {
                    return parent;
                }
            }
            return NONE;
        }

        int slotsWritten() {
            int sum = 0;
            for (int node = 0; node < used.size(); node++) {
                sum += used.at(node);
            }
            return sum;
        }

        int copiesOf(int segment) {
            int sum = 0;
            for (int node = 0; node < owner.size(); node++) {
                if (segment == NONE || owner.at(node) == segment) {
                    sum += copied.at(node);
                }
            }
            return sum;
        }
    }

    /** Sweeps, cuts and raises: each makes the next version, and can be undone and done again. */
    private static final class Acts {
        // An act is told by one number: its kind and, but for a sweep, its segment.
        static final int SWEEP = 0;
        static final int CUT = 16;
        static final int RAISE = 32;

        final Row kept;
        int done;
        private final Plan plan;
        private final Tree tree;
        private final Store store;

        Acts(Plan plan, Tree tree, Store store) {
            this.plan = plan;
            this.tree = tree;
            this.store = store;
            kept = new Row(LAST_STAMP);
            done = 0;
        }

        void forget() {
            kept.clear();
            done = 0;
        }

        boolean canSweep() {
            return store.event.at(store.newest()) < plan.eventPlaces.size();
        }

        boolean canCut(int segment) {
            return plan.has(segment) && store.isIn(store.newest(), segment);
        }

        boolean canRaise(int segment) {
            int newest = store.newest();
            boolean isOver = plan.isOver(segment, store.place.at(newest));
            return isOver && ((store.cut.at(newest) >> segment) & 1) != 0;
        }

        boolean doNew(int act) {
            if (store.newest() >= LAST_STAMP) {
                return false;
            }
            kept.keep(done);
            kept.add(act);
            perform(act);
            return true;
        }

        private void perform(int act) {
            int newest = store.newest();
            int across = store.place.at(newest);
            int in = store.in.at(newest);
            int cut = store.cut.at(newest);
            int event = store.event.at(newest);
            int bit = 1 << (act % CUT);
            if (act >= RAISE) {
                in |= bit;
                cut &= ~bit;
            } else if (act >= CUT) {
                in &= ~bit;
                cut |= bit;
            } else {
                across = plan.eventPlaces.at(event);
                in = plan.inBehind(in, across);
                event++;
            }
            tree.build(in);
            store.grow(tree, across, in, cut, event, plan.slots);
            done++;
        }

        boolean takeBack() {
            if (done < 1) {
                return false;
            }
            store.shrink();
            done--;
            return true;
        }

        boolean doAgain() {
            if (done >= kept.size()) {
                return false;
            }
            perform(kept.at(done));
            return true;
        }
    }

    /** What is to be found on the map as far as it is swept. */
    private static final class Survey {
        // In the row of what is above each segment: it is not in.
        private static final int NOT_IN = -2;

        final Row areas;
        int fartherUp;
        int hiddenAcross;
        int hiddenUp;
        int hiddenBy;
        private final Plan plan;
        private final Tree tree;
        private final Store store;
        private final Row aboves;
        private final Row starts;

        Survey(Plan plan, Tree tree, Store store) {
            this.plan = plan;
            this.tree = tree;
            this.store = store;
            areas = new Row(SEGMENT_ROOM + 1);
            aboves = new Row(SEGMENT_ROOM);
            starts = new Row(SEGMENT_ROOM);
        }

        void show(int stamp) {
            tree.build(store.in.at(stamp));
        }

        int nextEvent() {
            return plan.eventPlaces.at(store.event.at(store.newest()));
        }

        boolean isSwept(int across) {
            int event = nextEvent();
            return event == NONE || across < event;
        }

        private int stampOf(int across) {
            int stamp = store.newest();
            while (stamp > 0 && store.place.at(stamp) > across) {
                stamp--;
            }
            return stamp;
        }

        boolean find(int across, int up) {
            boolean onMap = across >= 0 && across <= FARTHEST && up >= LOWEST_UP && up <= HIGHEST_UP;
            if (!onMap || !isSwept(across)) {
                return false;
            }
            show(stampOf(across));
            countFartherUp(across, up);
            return true;
        }

        private void countFartherUp(int across, int up) {
            fartherUp = 0;
            for (int i = 0; i < tree.ordered.size(); i++) {
                if (plan.aheadOf(tree.ordered.at(i), across, up) > 0) {
                    fartherUp++;
                }
            }
        }

        int foundBelow() {
            return tree.ordered.at(tree.ordered.size() - fartherUp - 1);
        }

        int foundAbove() {
            return tree.ordered.at(tree.ordered.size() - fartherUp);
        }

        /** Bits of those that are so many places behind a segment in the row of some version. */
        int neighbours(int segment, int behind) {
            int bits = 0;
            for (int stamp = 0; stamp <= store.newest(); stamp++) {
                show(stamp);
                for (int i = 0; i < tree.ordered.size(); i++) {
                    int other = tree.ordered.at(i + behind);
                    if (tree.ordered.at(i) == segment && other != NONE) {
                        bits |= 1 << other;
                    }
                }
            }
            return bits;
        }

        int countTrapezes() {
            int many = 0;
            aboves.fill(SEGMENT_ROOM, NOT_IN);
            starts.fill(SEGMENT_ROOM, 0);
            for (int stamp = 0; stamp <= store.newest(); stamp++) {
                show(stamp);
                for (int segment = 0; segment < plan.count(); segment++) {
                    many += endStretch(segment, aboveOf(segment), store.place.at(stamp));
                }
            }
            int stop = nextEvent() == NONE ? FARTHEST : nextEvent();
            for (int segment = 0; segment < plan.count(); segment++) {
                many += endStretch(segment, NOT_IN, stop);
            }
            return many;
        }

        private int aboveOf(int segment) {
            for (int i = 0; i < tree.ordered.size(); i++) {
                if (tree.ordered.at(i) == segment) {
                    return tree.ordered.at(i + 1);
                }
            }
            return NOT_IN;
        }

        // 1 if a trapeze ends at a place, as what is above its segment is another from there on.
        private int endStretch(int segment, int above, int across) {
            int ahead = aboves.at(segment);
            if (ahead == above) {
                return 0;
            }
            boolean isWide = ahead != NOT_IN && across > starts.at(segment);
            aboves.put(segment, above);
            starts.put(segment, across);
            return isWide ? 1 : 0;
        }

        /** The areas, of none first, then of each segment. */
        void measure() {
            areas.fill(SEGMENT_ROOM + 1, 0);
            int shown = NONE;
            for (int across = 0; across <= FARTHEST && isSwept(across); across++) {
                shown = showUnlessShown(stampOf(across), shown);
                measureAt(across);
            }
        }

        private int showUnlessShown(int stamp, int shown) {
            if (stamp != shown) {
                show(stamp);
            }
            return stamp;
        }

        private void measureAt(int across) {
            int region = NONE;
            int first = 0;
            for (int i = 0; i < tree.ordered.size(); i++) {
                int segment = tree.ordered.at(i);
                int ceiling = plan.ceilingOf(segment, across);
                areas.put(region + 1, areas.at(region + 1) + ceiling - first);
                region = segment;
                first = ceiling;
            }
            areas.put(region + 1, areas.at(region + 1) + FARTHEST + 1 - first);
        }

        // The farther up a point, the fewer are above it: the first of the most is at the ground.
        void hide() {
            hiddenAcross = 0;
            hiddenUp = 0;
            hiddenBy = NONE;
            int shown = NONE;
            for (int across = 0; across <= FARTHEST && isSwept(across); across++) {
                shown = showUnlessShown(stampOf(across), shown);
                countFartherUp(across, 0);
                if (fartherUp > hiddenBy) {
                    hiddenBy = fartherUp;
                    hiddenAcross = across;
                }
            }
        }
    }

    /** What was told of a point of known height, when, and the places across that fit it. */
    private static final class Told {
        final Row fitting;
        final Row toldOf;
        int time;
        private final Plan plan;
        private final Row toldIs;
        private final Row toldAt;
        private final Row untoldAt;
        private final Row regions;

        Told(Plan plan) {
            this.plan = plan;
            fitting = new Row(FARTHEST + 1);
            regions = new Row(FARTHEST + 1);
            toldOf = new Row(SEEN_ROOM);
            toldIs = new Row(SEEN_ROOM);
            toldAt = new Row(SEEN_ROOM);
            untoldAt = new Row(SEEN_ROOM);
            time = 0;
        }

        void forget() {
            toldOf.clear();
            toldIs.clear();
            toldAt.clear();
            untoldAt.clear();
        }

        int tell(int segment, boolean is) {
            if (toldOf.size() >= SEEN_ROOM) {
                return NONE;
            }
            toldOf.add(segment);
            toldIs.add(is ? 1 : 0);
            toldAt.add(time);
            untoldAt.add(NONE);
            return toldOf.size() - 1;
        }

        boolean takeBack(int number) {
            if (number < 0 || number >= toldOf.size() || untoldAt.at(number) != NONE) {
                return false;
            }
            untoldAt.put(number, time);
            return true;
        }

        int goOn(int by) {
            if (by < 0 || by > LONGEST_WAIT || time + by > LAST_TIME) {
                return NONE;
            }
            time += by;
            return time;
        }

        /** Gathers the places that fit a height, as known at k, and their regions. */
        boolean gather(int up, int k) {
            fitting.clear();
            regions.clear();
            if (up < LOWEST_UP || up > HIGHEST_UP) {
                return false;
            }
            for (int across = 0; across <= FARTHEST; across++) {
                int region = plan.regionOf(across, up);
                if (agrees(region, k)) {
                    fitting.add(across);
                    regions.add(region);
                }
            }
            return true;
        }

        private boolean agrees(int region, int k) {
            for (int i = 0; i < toldOf.size(); i++) {
                boolean isSo = (toldOf.at(i) == region) == (toldIs.at(i) == 1);
                if (counts(i, k) && !isSo) {
                    return false;
                }
            }
            return true;
        }

        private boolean counts(int number, int k) {
            int end = untoldAt.at(number);
            return toldAt.at(number) <= k && (end == NONE || end > k);
        }

        int bestQuestion() {
            int best = NONE;
            int fewest = 0;
            for (int segment = 0; segment < plan.count() && fitting.size() > 0; segment++) {
                int many = leftBy(segment);
                if (best == NONE || many < fewest) {
                    best = segment;
                    fewest = many;
                }
            }
            return best;
        }

        /** How many places are left at the most by the answer whether a segment is the region. */
        int leftBy(int segment) {
            int many = 0;
            for (int i = 0; i < regions.size(); i++) {
                many += regions.at(i) == segment ? 1 : 0;
            }
            return Math.max(many, regions.size() - many);
        }
    }
}
