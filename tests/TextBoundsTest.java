import java.util.Arrays;

/**
 * The document from its first term up to "==== 2.", and promises 1 to 5: each sentence that names a
 * boundary, on both of its sides.
 */
public final class TextBoundsTest {
    private static final String[] RESERVED = {"seg", "at", "to", "weighs", "slots", "draw", "or", "and", "not",
        "number", "across", "width", "rise", "luck"};
    private static final String SIGNS = ";()<>=+-*/%";

    public static void main(String[] args) {
        bytes();
        emptyAtFirst();
        lines();
        formulas();
        relations();
        notOnlyAheadOfOne();
        anyByteAlone();
        anyByteBehindNumber();
        anyByteBehindWord();
        wordLength();
        digits();
        blanks();
        longestTokens();
        noLetterBehindNumber();
        noTokens();
        noNames();
        eightSegments();
        segmentNumbers();
        numberedAsTold();
        onceEach();
        slotsAndDraw();
        thirtyUnits();
        sixtyUnits();
        withinSixOthers();
        firstFault();
        leastFault();
        theEnd();
        nothingIsLeft();
        tooMany();
        toldAlready();
        cannotBe();
        atItsLastNumber();
        pointInCommon();
        endOfBoth();
        newObject();
        feed();
        fedBytes();
        feedTooMany();
        end();
        endRefused();
        map();
        mapWithFault();
        faultOfTheLatest();
        faultOfAnother();
        Kit.tell("what a text is");
    }

    private static String blanks(int many) {
        return Kit.times(" ", many);
    }

    private static void bytes() {
        Kit.says("A MAP is a text of at most 1,600 bytes");
        StampMap x = Kit.told(blanks(1592) + "slots 5;");
        Kit.due("slots at the end of 1600 bytes", x.about(5), 5);
        Kit.faulty(blanks(1599) + "$", 1, 1599);
        Kit.faulty(blanks(1593) + "slots 5", 2, 1600);
        Kit.faulty(blanks(1594) + "slots ", 2, 1600);
        Kit.sound(blanks(1600), 0, 0);
        x = new StampMap();
        Kit.put(x, blanks(1600));
        Kit.due("feed(), 1601 bytes and more", x.feed(1, 1, 1, 1, 1), -1);
    }

    private static void emptyAtFirst() {
        Kit.says("(empty at first): map = {line}.");
        StampMap x = new StampMap();
        Kit.due("about(10)", x.about(10), 0);
        Kit.due("about(0)", x.about(0), 0);
        Kit.due("map() of no line", x.map(), 0);
        Kit.due("fault(0)", x.fault(0), 0);
        Kit.sound("slots 2;", 0, 0);
        Kit.sound("slots 2;draw 1;", 0, 0);
        Kit.sound("draw 1;weighs 1;seg a at 0 0 to 1 1;slots 2;seg b at 1 1 to 2 2;", 2, 1);
    }

    /** Each line's first tokens alone lack one more; another one in a token's place can't stand there. */
    private static void lines() {
        Kit.says("line = seg NAME at N N to N N ; | weighs e ; | slots N ; | draw N ;.");
        String[] lines = {"seg a at 1 2 to 3 4 ;", "weighs 1 ;", "slots 1 ;", "draw 1 ;"};
        for (String line : lines) {
            String[] tokens = line.split(" ");
            Kit.sound(line, line.startsWith("seg") ? 1 : 0, line.startsWith("weighs") ? 1 : 0);
            for (int many = 1; many < tokens.length; many++) {
                String ahead = String.join(" ", Arrays.copyOf(tokens, many));
                Kit.faulty(ahead, 2, ahead.length());
                Kit.faulty(ahead + " ) " + line, 2, ahead.length() + 1);
                Kit.faulty(ahead + " " + tokens[0], 2, ahead.length() + 1);
            }
            Kit.faulty(line + ";", 2, line.length());
            Kit.faulty("= " + line, 2, 0);
        }
    }

    private static void formulas() {
        Kit.says("e = both {or both}. both = one {and one}. one = not one | sum [(< | > | =) sum]. "
                + "sum = term {(+ | -) term}. term = unit {(* | / | %) unit}. "
                + "unit = N | number | across | width | rise | luck | ( e ).");
        String[] joins = {"or", "and", "<", ">", "=", "+", "-", "*", "/", "%"};
        for (String join : joins) {
            Kit.sound("weighs 1 " + join + " 2;", 0, 2);
            Kit.faulty("weighs 1 " + join + ";", 2, 9 + join.length());
            Kit.faulty("weighs " + join + " 1;", 2, 7);
            Kit.faulty("weighs 1 " + join + " " + join + " 1;", 2, 10 + join.length());
        }
        String[] units = {"0", "number", "across", "width", "rise", "luck", "(1)"};
        for (String unit : units) {
            Kit.sound("weighs " + unit + ";", 0, unit.equals("(1)") ? 2 : 1);
            Kit.faulty("weighs " + unit + " " + unit + ";", 2, 8 + unit.length());
        }
        Kit.faulty("weighs ();", 2, 8);
        Kit.faulty("weighs (;", 2, 8);
        Kit.faulty("weighs );", 2, 7);
        Kit.faulty("weighs (1;", 2, 9);
        Kit.faulty("weighs 1);", 2, 8);
        Kit.faulty("weighs ((1);", 2, 11);
        Kit.faulty("weighs (1));", 2, 10);
    }

    private static void relations() {
        Kit.says("one = not one | sum [(< | > | =) sum].");
        String[] signs = {"<", ">", "="};
        for (String one : signs) {
            Kit.sound("weighs 1" + one + "2;", 0, 2);
            Kit.sound("weighs (1" + one + "2)" + one + "(3" + one + "4);", 0, 6);
            Kit.sound("weighs 1" + one + "2 and 3" + one + "4 or 5" + one + "6;", 0, 6);
            Kit.sound("weighs 1+2" + one + "3*4;", 0, 4);
            for (String other : signs) {
                Kit.faulty("weighs 1" + one + "2" + other + "3;", 2, 10);
                Kit.faulty("weighs 1" + one + "2*3+4" + other + "3;", 2, 14);
                Kit.faulty("weighs not 1" + one + "2" + other + "3;", 2, 14);
                Kit.faulty("weighs (1" + one + "2" + other + "3);", 2, 11);
            }
        }
    }

    private static void notOnlyAheadOfOne() {
        Kit.says("one = not one");
        Kit.sound("weighs not 1;", 0, 1);
        Kit.sound("weighs not not 1 and not 2 or not 3;", 0, 3);
        Kit.sound("weighs (not 1)+(not 2);", 0, 4);
        Kit.faulty("weighs not;", 2, 10);
        Kit.faulty("weighs 1 not;", 2, 9);
        String[] joins = {"<", ">", "=", "+", "-", "*", "/", "%"};
        for (String join : joins) {
            Kit.faulty("weighs 1" + join + "not 2;", 2, 9);
            Kit.faulty("weighs not 1" + join + "not 2;", 2, 13);
        }
    }

    private static boolean isLetter(int sign) {
        return sign >= 'a' && sign <= 'z';
    }

    private static boolean isDigit(int sign) {
        return sign >= '0' && sign <= '9';
    }

    private static boolean isSign(int sign) {
        return SIGNS.indexOf(sign) >= 0;
    }

    private static void anyByteAlone() {
        Kit.says("TOKENS: words (a .. z, 8 at most), N (1 to 4 digits), signs ; ( ) < > = + - * / %;");
        for (int sign = 0; sign < 256; sign++) {
            String text = String.valueOf((char) sign);
            if (sign == 32 || sign == 10) {
                Kit.sound(text, 0, 0);
            } else {
                boolean isToken = isLetter(sign) || isDigit(sign) || isSign(sign);
                Kit.faulty(text, isToken ? 2 : 1, 0);
            }
        }
    }

    private static void anyByteBehindNumber() {
        Kit.says("what is none of these, a longer word, more digits, a number with a letter behind it: "
                + "no TOKEN, at its first byte");
        for (int sign = 0; sign < 256; sign++) {
            String text = "slots 3" + (char) sign + ";";
            if (sign == 32 || sign == 10) {
                Kit.sound(text, 0, 0);
            } else if (isDigit(sign)) {
                Kit.faulty(text, 4, 6);
            } else if (isLetter(sign)) {
                Kit.faulty(text, 1, 6);
            } else if (isSign(sign)) {
                Kit.faulty(text, 2, sign == ';' ? 8 : 7);
            } else {
                Kit.faulty(text, 1, 7);
            }
        }
    }

    private static void anyByteBehindWord() {
        Kit.says("blanks (32, 10) part them or not");
        for (int sign = 0; sign < 256; sign++) {
            String text = "seg b" + (char) sign + " at 1 1 to 2 2;";
            if (sign == 32 || sign == 10 || isLetter(sign)) {
                Kit.sound(text, 1, 0);
            } else {
                Kit.faulty(text, isDigit(sign) || isSign(sign) ? 2 : 1, 5);
            }
        }
    }

    private static void wordLength() {
        Kit.says("words (a .. z, 8 at most)");
        for (int letters = 1; letters <= 12; letters++) {
            String text = "seg " + Kit.times("z", letters) + " at 1 1 to 2 2;";
            if (letters <= 8) {
                Kit.sound(text, 1, 0);
            } else {
                Kit.faulty(text, 1, 4);
            }
        }
        Kit.faulty("abcdefgh", 2, 0);
        Kit.faulty("abcdefghi", 1, 0);
        Kit.faulty(Kit.times("a", 1600), 1, 0);
    }

    private static void digits() {
        Kit.says("N (1 to 4 digits)");
        Kit.sound("slots 3;", 0, 0);
        Kit.sound("slots 0003;", 0, 0);
        Kit.faulty("slots 00003;", 1, 6);
        Kit.sound("weighs 9999;", 0, 1);
        Kit.faulty("weighs 10000;", 1, 7);
        Kit.faulty("weighs 00000;", 1, 7);
        Kit.sound("seg a at 0000 0001 to 0060 0002;", 1, 0);
        Kit.faulty("seg a at 0000 0001 to 00060 0002;", 1, 22);
        Kit.faulty("weighs " + Kit.times("9", 1500), 1, 7);
        Kit.faulty("slots ;", 2, 6);
        // Beside 0 and 9 stand / (a sign) and : (none).
        Kit.faulty("slots /;", 2, 6);
        Kit.faulty("slots :;", 1, 6);
    }

    private static void blanks() {
        Kit.says("blanks (32, 10) part them or not");
        Kit.sound("seg  a\nat\n\n0 0 to 1 1 \n;\n", 1, 0);
        Kit.sound("slots3;draw9;seg a at0 0 to1 1;", 1, 0);
        Kit.sound("weighs(number)or(across)and(width);", 0, 6);
        Kit.sound("weighs 1+2*3<4-5/6;", 0, 6);
        Kit.faulty("weighs 1\t+2;", 1, 8);
        Kit.faulty("weighs 1\r\n+2;", 1, 8);
        Kit.faulty("weighs 1\u00a0+2;", 1, 8);
        // Where two would be one word or one number, a blank is needed.
        Kit.faulty("sega at 0 0 to 1 1;", 2, 0);
        Kit.faulty("seg a at 00 to 1 1;", 2, 12);
    }

    private static void longestTokens() {
        Kit.says("each is as long as can be");
        Kit.faulty("slotss 3;", 2, 0);
        Kit.faulty("weighs notnot 1;", 2, 7);
        Kit.faulty("weighs 1 orand 1;", 2, 9);
        Kit.faulty("slots 12;", 4, 6);
        Kit.faulty("draw 9999;", 4, 5);
        Kit.faulty("seg abcdefghat 1 1 to 2 2;", 1, 4);
        Kit.faulty("slots 12345;", 1, 6);
        Kit.sound("seg segs at 1 1 to 2 2;", 1, 0);
        Kit.sound("seg att at 1 1 to 2 2;", 1, 0);
        Kit.sound("seg a at 1 1 to 2 2;seg aa at 3 1 to 4 2;", 2, 0);
        // Signs are one byte each.
        Kit.faulty("weighs 1<=2;", 2, 9);
        Kit.faulty("weighs 1--2;", 2, 9);
    }

    private static void noLetterBehindNumber() {
        Kit.says("no letter directly behind an N");
        Kit.sound("weighs 1 or 2;", 0, 2);
        Kit.faulty("weighs 1or 2;", 1, 7);
        Kit.sound("weighs 1\nor 2;", 0, 2);
        Kit.sound("weighs (1)or 2;", 0, 3);
        Kit.faulty("weighs 1a;", 1, 7);
        Kit.faulty("weighs 1z;", 1, 7);
        Kit.faulty("weighs 9999a;", 1, 7);
        Kit.faulty("weighs 99999a;", 1, 7);
        Kit.sound("weighs 2*3;", 0, 2);
        // Beside a and z stand bytes that are no letters: they are no TOKENS at their own place.
        Kit.faulty("weighs 1`;", 1, 8);
        Kit.faulty("weighs 1{;", 1, 8);
        Kit.faulty("seg a at 1 1to 2 2;", 1, 11);
        // Digits may stand directly behind a word.
        Kit.sound("draw7;", 0, 0);
    }

    private static void noTokens() {
        Kit.says("1 no TOKEN;");
        String[] none = {"$", "123456789", "abcdefghi", "5x", "\0", "\u00ff", "A", "_", ",", ".", "!", "[", "'", "\""};
        String[] places = {"%", "seg %", "seg a %", "seg a at %", "seg a at 1 %", "seg a at 1 1 %", "seg a at 1 1 to %",
            "seg a at 1 1 to 2 %", "seg a at 1 1 to 2 2 %", "seg a at 1 1 to 2 2; %", "weighs %", "weighs 1 %",
            "weighs not %", "weighs (%", "weighs (1 %", "weighs 1 + %", "slots %", "slots 1 %", "draw %", "draw 1 %"};
        for (String place : places) {
            for (String no : none) {
                int at = place.length() - 1;
                Kit.faulty(place.substring(0, at) + no, 1, at);
                Kit.faulty(place.substring(0, at) + no + " ;", 1, at);
            }
        }
    }

    private static void noNames() {
        Kit.says("Words that stand for themselves here are no NAMES.");
        for (String word : RESERVED) {
            Kit.faulty("seg " + word + " at 1 1 to 2 2;", 2, 4);
            Kit.sound("seg " + word + "x at 1 1 to 2 2;", 1, 0);
            String lessOne = word.substring(0, word.length() - 1);
            Kit.sound("seg " + lessOne + " at 1 1 to 2 2;", 1, 0);
        }
        String[] others = {"map", "line", "e", "both", "one", "sum", "term", "unit", "name", "n", "luckier"};
        for (String word : others) {
            Kit.sound("seg " + word + " at 1 1 to 2 2;", 1, 0);
        }
        // Nor is a NAME a unit, or a line's first word.
        Kit.faulty("seg a at 1 1 to 2 2;weighs a;", 2, 27);
        Kit.faulty("seg a at 1 1 to 2 2;a;", 2, 20);
        Kit.faulty("seg a at 1 1 to 2 2;seg b a;", 2, 26);
    }

    private static void eightSegments() {
        Kit.says("At most 8 SEGMENTS");
        Kit.sound(Kit.EIGHT, 8, 0);
        Kit.sound(Kit.EIGHT + "slots 3;weighs 1;draw 1;", 8, 1);
        Kit.faulty(Kit.EIGHT + "seg i at 0 9 to 60 9;", 2, Kit.EIGHT.length());
        Kit.faulty(Kit.EIGHT + "slots 2;\n seg", 2, Kit.EIGHT.length() + 10);
    }

    private static void segmentNumbers() {
        Kit.says("(from 0 .. 59 across, 0 .. 60 up, to farther across, 60 at most, 0 .. 60 up)");
        Kit.sound("seg a at 0 0 to 1 0;", 1, 0);
        Kit.sound("seg a at 59 60 to 60 60;", 1, 0);
        Kit.sound("seg a at 0 60 to 60 0;", 1, 0);
        Kit.faulty("seg a at 60 0 to 60 0;", 4, 9);
        Kit.faulty("seg a at 60 0 to 61 0;", 4, 9);
        Kit.faulty("seg a at 9999 0 to 60 0;", 4, 9);
        Kit.faulty("seg a at 0 61 to 60 0;", 4, 11);
        Kit.faulty("seg a at 30 0 to 30 0;", 4, 17);
        Kit.sound("seg a at 30 0 to 31 0;", 1, 0);
        Kit.faulty("seg a at 30 0 to 29 0;", 4, 17);
        Kit.faulty("seg a at 30 0 to 0 0;", 4, 17);
        Kit.faulty("seg a at 30 0 to 61 0;", 4, 17);
        Kit.faulty("seg a at 59 0 to 59 0;", 4, 17);
        Kit.faulty("seg a at 0 0 to 60 61;", 4, 19);
        Kit.faulty("seg a at 0 0 to 60 9999;", 4, 19);
        // What is below 0 would begin with a sign.
        Kit.faulty("seg a at -1 0 to 1 0;", 2, 9);
        Kit.faulty("seg a at 0 -1 to 1 0;", 2, 11);
    }

    private static void numberedAsTold() {
        Kit.says("numbered as told");
        StampMap x = Kit.told("seg z at 40 1 to 50 2;weighs number;seg m at 20 3 to 30 4;seg a at 0 5 to 10 6;");
        int[][] ends = {{40, 1, 50, 2}, {20, 3, 30, 4}, {0, 5, 10, 6}};
        for (int k = 0; k < 3; k++) {
            for (int what = 0; what < 4; what++) {
                Kit.due("segment(" + k + ", " + what + ")", x.segment(k, what), ends[k][what]);
            }
            Kit.due("weight(" + k + ")", x.weight(k), k);
        }
    }

    private static void onceEach() {
        Kit.says("weighs, slots (1 .. 6; 3), draw (0 .. 999; 0) once each");
        String[] lines = {"weighs 1;", "slots 1;", "draw 1;"};
        for (String line : lines) {
            String word = line.substring(0, line.indexOf(' '));
            Kit.sound(line, 0, line.startsWith("weighs") ? 1 : 0);
            Kit.faulty(line + line, 2, line.length());
            Kit.faulty(line + word, 2, line.length());
            Kit.faulty(line + "seg a at 1 1 to 2 2; " + line, 2, line.length() + 21);
            for (String other : lines) {
                if (!other.equals(line)) {
                    Kit.sound(line + other, 0, (line + other).contains("weighs") ? 1 : 0);
                    Kit.faulty(line + other + line, 2, line.length() + other.length());
                }
            }
        }
        // Told in one map, they may be told in the next.
        StampMap x = Kit.told("weighs 1;slots 1;draw 1;");
        Kit.put(x, "weighs 2;slots 2;draw 2;");
        Kit.due("map() of the next", x.map(), 0);
        Kit.put(x, "weighs 2;slots 2;draw 2;slots 2;");
        Kit.due("map() of slots twice", x.map(), -1);
        Kit.put(x, "weighs 2;slots 5;draw 2;");
        Kit.due("map() behind a fault", x.map(), 0);
        Kit.due("about(5)", x.about(5), 5);
    }

    private static void slotsAndDraw() {
        Kit.says("slots (1 .. 6; 3), draw (0 .. 999; 0)");
        for (int slots = 1; slots <= 6; slots++) {
            Kit.due("about(5)", Kit.told("slots " + slots + ";").about(5), slots);
        }
        Kit.due("about(5) untold", Kit.told("draw 5;").about(5), 3);
        Kit.faulty("slots 0;", 4, 6);
        Kit.faulty("slots 7;", 4, 6);
        Kit.faulty("slots 9999;", 4, 6);
        String one = "seg a at 0 0 to 1 1;";
        Kit.due("luck, draw untold", Kit.told(one).weight(0), 71);
        Kit.due("luck, draw 0", Kit.told(one + "draw 0;").weight(0), 71);
        Kit.due("luck, draw 1", Kit.told(one + "draw 1;").weight(0), 8);
        Kit.due("luck, draw 999", Kit.told(one + "draw 999;").weight(0), (999 * 137 + 71) % 1000 % 100);
        Kit.faulty("draw 1000;", 4, 5);
        Kit.faulty("draw 9999;", 4, 5);
    }

    private static void thirtyUnits() {
        Kit.says("30 in one e");
        String[] joins = {"+", "*", "-", " and ", " or "};
        for (String join : joins) {
            String thirty = "weighs luck" + Kit.times(join + "3", 29);
            Kit.sound(thirty + ";", 0, 30);
            Kit.faulty(thirty + join + "3;", 2, thirty.length() + join.length());
            Kit.faulty(thirty + join + "(3);", 2, thirty.length() + join.length());
            Kit.faulty(thirty + join + "number;", 2, thirty.length() + join.length());
        }
        // What is in ( e ) is in the outer e, too, and ( e ) itself is a unit.
        String pairs = Kit.times("(1)+", 14);
        Kit.sound("weighs " + pairs + "(1);", 0, 30);
        Kit.sound("weighs " + pairs + "1+1;", 0, 30);
        Kit.faulty("weighs " + pairs + "1+1+1;", 2, 7 + 4 * 14 + 4);
        Kit.faulty("weighs " + pairs + "1+(1);", 2, 7 + 4 * 14 + 3);
        // A not is no unit; behind 30 units what comes behind it is one too many.
        String thirty = "weighs 1" + Kit.times(" and not 1", 29);
        Kit.sound(thirty + ";", 0, 30);
        Kit.faulty(thirty + " and not 1;", 2, thirty.length() + 9);
        // Behind 30 units what can't stand there can't, and what closes can.
        Kit.faulty("weighs 1" + Kit.times("+1", 29) + "+;", 2, 67);
        Kit.sound("weighs (1" + Kit.times("+1", 28) + ");", 0, 30);
        Kit.faulty("weighs (1" + Kit.times("+1", 28) + ")+1;", 2, 67);
    }

    private static void sixtyUnits() {
        Kit.says("60 units in all");
        // A map has one e at most, and that has 30: the next map begins anew.
        StampMap x = new StampMap();
        for (int i = 0; i < 3; i++) {
            Kit.put(x, "weighs 1" + Kit.times("+1", 29) + ";");
            Kit.due("map()", x.map(), 0);
            Kit.due("about(11)", x.about(11), 30);
        }
        Kit.put(x, "slots 1;");
        x.map();
        Kit.due("about(11) without weighs", x.about(11), 0);
    }

    private static void withinSixOthers() {
        Kit.says("(a unit ( e ), or a one behind not, within 6 others at most)");
        for (int open = 1; open <= 12; open++) {
            String brackets = "weighs " + Kit.times("(", open) + "1" + Kit.times(")", open) + ";";
            String nots = "weighs " + Kit.times("not ", open) + "1;";
            String mixed = "weighs " + Kit.times("not (", open / 2) + (open % 2 == 1 ? "not " : "") + "1"
                    + Kit.times(")", open / 2) + ";";
            if (open <= 7) {
                Kit.sound(brackets, 0, open + 1);
                Kit.sound(nots, 0, 1);
                Kit.sound(mixed, 0, open / 2 + 1);
            } else {
                Kit.faulty(brackets, 2, 14);
                Kit.faulty(nots, 2, 35);
                Kit.faulty(mixed, 2, 7 + 3 * 5 + 4);
            }
        }
        // What is closed, or ends, is none of the others.
        String seven = Kit.times("(", 7) + "1" + Kit.times(")", 7);
        Kit.sound("weighs " + seven + "+" + seven + "+" + seven + ";", 0, 24);
        Kit.sound("weighs " + Kit.times("not ", 7) + "1 or " + Kit.times("not ", 7) + "1;", 0, 2);
        Kit.sound("weighs " + Kit.times("not ", 7) + "1 and " + Kit.times("not ", 7) + "1;", 0, 2);
        Kit.sound("weighs (not not not 1)+" + seven + ";", 0, 10);
        Kit.sound("weighs not 1 and " + seven + ";", 0, 9);
        Kit.sound("weighs not " + Kit.times("(", 6) + "1" + Kit.times(")", 6) + "=1 and (" + Kit.times("(", 6) + "2"
                + Kit.times(")", 6) + ");", 0, 7 + 1 + 8);
        // Nor does what ended make room for more.
        Kit.faulty("weighs not 1 and " + Kit.times("(", 8) + "1", 2, 24);
        Kit.faulty("weighs not not not 1 or " + Kit.times("not ", 8) + "1", 2, 52);
        Kit.faulty("weighs 1*2+3-4<5 and 6 or " + Kit.times("(", 8) + "1", 2, 33);
        Kit.faulty("weighs (not 1)+((2))+" + Kit.times("(", 8) + "1", 2, 28);
        // In a relation behind not, both sides are within that.
        Kit.sound("weighs not not not not not not 1=(2);", 0, 3);
        Kit.faulty("weighs not not not not not not not 1=(2);", 2, 37);
        Kit.faulty("weighs not not not not not not not 1+(2);", 2, 37);
        Kit.faulty("weighs not not not not not not not (2);", 2, 35);
    }

    private static void firstFault() {
        Kit.says("FAULTS, the first by its place (bytes from 0; the end: the text's length)");
        Kit.faulty("$slots 9;", 1, 0);
        Kit.faulty("slots 9;$", 4, 6);
        Kit.faulty("slots 9$", 4, 6);
        Kit.faulty("slots at;$", 2, 6);
        Kit.faulty("slots 1;slots 9;", 2, 8);
        Kit.faulty("seg a at 0 0 to 9 9;seg a at 99 $", 3, 24);
        Kit.faulty("seg a at 0 0 to 9 9;seg b at 0 9 to 9 0;$", 5, 38);
        Kit.faulty("seg a at 0 0 to 9 9;seg b at 0 9 to 9 0", 5, 38);
        Kit.faulty("seg a at 0 0 to 9 9;seg b at 0 9 to 9 0 $", 5, 38);
        Kit.faulty("seg a at 60 61 to 9 99;", 4, 9);
        Kit.faulty("seg a at 0 61 to 99 99;", 4, 11);
        Kit.faulty("seg a at 5 0 to 5 99;", 4, 16);
        Kit.sound("slots 6;", 0, 0);
    }

    private static void leastFault() {
        Kit.says("at one place the least: 1 no TOKEN;");
        // 1 ahead of 2: a NAME, a word, a number, a sign that would be no TOKEN stands nowhere.
        Kit.faulty("abcdefghi 1;", 1, 0);
        Kit.faulty("slots abcdefghi;", 1, 6);
        // 1 ahead of 4: too long, though it could not be either.
        Kit.faulty("slots 99999;", 1, 6);
        Kit.faulty("seg a at 60x 0 to 1 1;", 1, 9);
        // 1 ahead of 2: a unit too many that is no TOKEN.
        Kit.faulty("weighs 1" + Kit.times("+1", 29) + "+$;", 1, 67);
        Kit.faulty("weighs " + Kit.times("(", 7) + "$", 1, 14);
        // 2 ahead of 3: told already, but where no NAME can stand.
        Kit.faulty("seg a at 0 0 to 9 9;seg b a", 2, 26);
        Kit.faulty("seg a at 0 0 to 9 9;a", 2, 20);
        Kit.faulty(Kit.EIGHT + "seg a", 2, Kit.EIGHT.length());
        // 2 ahead of 4: a number that could not be, where none can stand.
        Kit.faulty("seg a at 0 0 to 9 9 99;", 2, 20);
        Kit.faulty("slots 1;slots 99;", 2, 8);
        // 4 ahead of 5: the last number can't be, and what it would make has a point in common.
        Kit.faulty("seg a at 0 0 to 9 60;seg b at 0 60 to 9 61;", 4, 40);
        Kit.faulty("seg a at 0 0 to 9 60;seg b at 0 60 to 9 0;", 5, 40);
    }

    private static void theEnd() {
        Kit.says("(bytes from 0; the end: the text's length)");
        Kit.faulty("slots", 2, 5);
        Kit.faulty("slots ", 2, 6);
        Kit.faulty("slots \n\n ", 2, 9);
        Kit.faulty("slots 3", 2, 7);
        Kit.sound("slots 3;", 0, 0);
        Kit.sound("slots 3; ", 0, 0);
        StampMap x = new StampMap();
        Kit.put(x, "slots 3;slots 3;");
        x.end(7);
        Kit.due("map() of a cut text", x.map(), -1);
        Kit.due("fault(1)", x.fault(1), 7);
    }

    /** A text begins anew, whatever the one ahead of it told, and wherever that was at fault. */
    private static void nothingIsLeft() {
        Kit.says("The TAPE (empty then) is the MAP");
        String seven = Kit.times("(", 7) + "1" + Kit.times(")", 7);
        String[] ahead = {"weighs (((((((1", "weighs not not not not not not not 1<2+", "weighs 1+2*3-", "weighs 5;draw 5;slots 5;$",
            "seg z at 0 0 to 60 0;seg b at 3 9 to 4 4;draw 9;seg", "weighs 1" + Kit.times("+1", 40), "weighs 7", "slots", "slots 5;draw 9;"};
        for (String text : ahead) {
            StampMap x = new StampMap();
            Kit.put(x, text);
            x.map();
            Kit.put(x, "seg b at 1 5 to 9 8;seg z at 9 9 to 12 9;weighs width*100+rise+" + seven + ";");
            Kit.due("map() behind " + text, x.map(), 2);
            Kit.due("weight(0)", x.weight(0), 804);
            Kit.due("weight(1)", x.weight(1), 301);
            Kit.due("about(5)", x.about(5), 3);
            Kit.due("about(11)", x.about(11), 13 - 2);
            Kit.put(x, text);
            x.map();
            Kit.put(x, "seg b at 1 5 to 9 8;");
            Kit.due("map() behind " + text, x.map(), 1);
            Kit.due("weight(0) by luck", x.weight(0), 71);
            Kit.due("about(11)", x.about(11), 0);
        }
        // Many long formulas, one behind the other, each of all eight SEGMENTS.
        StampMap x = new StampMap();
        for (int i = 0; i < 9; i++) {
            Kit.put(x, "weighs number*" + i + Kit.times("+" + i, 28) + ";" + Kit.EIGHT);
            Kit.due("map() " + i, x.map(), 8);
            for (int k = 0; k < 8; k++) {
                Kit.due("weight(" + k + ") of " + i, x.weight(k), (k + 28) * i);
            }
        }
        // As a map of a new object, swept likewise.
        String text = "seg a at 3 9 to 40 10;seg b at 0 8 to 50 7;weighs width;";
        Kit.refused("a map behind another", () -> {
            StampMap y = Kit.rich("");
            y.end(0);
            Kit.put(y, text);
            return y;
        }, () -> {
            StampMap y = new StampMap();
            y.later(10);
            Kit.put(y, text);
            y.map();
            return swept(y);
        }, y -> {
            y.map();
            return swept(y).about(3);
        }, 3);
    }

    private static StampMap swept(StampMap x) {
        x.sweep();
        x.sweep();
        x.cut(0);
        x.raise(0);
        return x;
    }

    private static void tooMany() {
        Kit.says("2 one that can't stand there (a SEGMENT too many, weighs, slots, draw a second time: "
                + "at the line's first word; a unit too many, what is within 7 others: at its first TOKEN, or the not)");
        int behind = Kit.EIGHT.length();
        Kit.faulty(Kit.EIGHT + "  seg 5", 2, behind + 2);
        Kit.faulty("weighs 1; weighs $", 2, 10);
        Kit.faulty("slots 1; slots 0", 2, 9);
        Kit.faulty("draw 1; draw 1000", 2, 8);
        Kit.faulty("weighs 1" + Kit.times("+1", 29) + "+ (;", 2, 68);
        Kit.faulty("weighs " + Kit.times("(", 7) + " (1", 2, 15);
        Kit.faulty("weighs " + Kit.times("(", 7) + " not 1", 2, 15);
        Kit.faulty("weighs " + Kit.times("not ", 7) + " (1", 2, 36);
        Kit.faulty("weighs " + Kit.times("not ", 7) + " not 1", 2, 36);
    }

    private static void toldAlready() {
        Kit.says("3 a NAME told already");
        String first = "seg a at 0 0 to 1 1;seg b at 1 1 to 2 2;";
        Kit.faulty(first + "seg a at 3 3 to 4 4;", 3, 44);
        Kit.faulty(first + "seg b at 3 3 to 4 4;", 3, 44);
        Kit.faulty(first + "seg\n\nb", 3, 45);
        Kit.sound(first + "seg c at 3 3 to 4 4;", 3, 0);
        Kit.sound(first + "seg ab at 3 3 to 4 4;seg ba at 5 5 to 6 6;seg aa at 7 7 to 8 8;", 5, 0);
        String longest = "seg zzzzzzzz at 0 0 to 1 1;";
        Kit.faulty(longest + "seg zzzzzzzz at 1 1 to 2 2;", 3, 31);
        Kit.sound(longest + "seg zzzzzzzy at 1 1 to 2 2;seg azzzzzzz at 2 2 to 3 3;seg zzzzzzz at 3 3 to 4 4;", 4, 0);
        // Told in another text it is not told, be that one a map or not.
        StampMap x = Kit.told("seg a at 0 0 to 1 1;");
        Kit.put(x, "seg a at 0 0 to 1 1;");
        Kit.due("map() with a again", x.map(), 1);
        Kit.put(x, "seg b at 0 0 to 1 1;seg c at 5");
        Kit.due("map() of a fault", x.map(), -1);
        Kit.put(x, "seg b at 0 0 to 1 1;seg c at 5 5 to 6 6;");
        Kit.due("map() with b again", x.map(), 2);
    }

    private static void cannotBe() {
        Kit.says("4 a number that can't be");
        String[] ahead = {"slots ", "draw ", "seg a at ", "seg a at 0 ", "seg a at 0 0 to ", "seg a at 0 0 to 60 "};
        int[] least = {1, 0, 0, 0, 1, 0};
        int[] most = {6, 999, 59, 60, 60, 60};
        String[] behind = {";", ";", " 0 to 60 0;", " to 60 0;", " 0;", ";"};
        for (int i = 0; i < ahead.length; i++) {
            int segments = i < 2 ? 0 : 1;
            Kit.sound(ahead[i] + least[i] + behind[i], segments, 0);
            Kit.sound(ahead[i] + most[i] + behind[i], segments, 0);
            Kit.faulty(ahead[i] + (most[i] + 1) + behind[i], 4, ahead[i].length());
            if (least[i] > 0) {
                Kit.faulty(ahead[i] + (least[i] - 1) + behind[i], 4, ahead[i].length());
            }
        }
    }

    private static void atItsLastNumber() {
        Kit.says("5 (at its last number) a SEGMENT that has a point in common with one told ahead");
        Kit.faulty("seg a at 0 0 to 9 9;seg b at 0 9 to 9 0;", 5, 38);
        Kit.faulty("seg a at 0 0 to 9 9;seg b at 0 9 to 9  \n 0001;", 5, 41);
        Kit.faulty("seg a at 0 0 to 9 9;slots 1;seg b at 0 9 to 9 0;", 5, 46);
        // One told ahead: not the one directly ahead alone.
        Kit.faulty("seg a at 0 0 to 9 9;seg b at 20 0 to 29 9;seg c at 0 9 to 9 0;", 5, 60);
        Kit.faulty("seg a at 0 0 to 9 9;seg b at 20 0 to 29 9;seg c at 0 20 to 29 0;", 5, 62);
        // At the first that has: c crosses nothing, d crosses a.
        Kit.faulty("seg a at 0 0 to 9 9;seg c at 0 9 to 4 8;seg d at 5 9 to 9 0;seg e at 0 9 to 9 0;", 5, 58);
    }

    private static String two(String one, String other) {
        return "seg a at " + one + ";seg b at " + other + ";";
    }

    private static int lastNumber(String text) {
        return text.lastIndexOf(' ') + 1;
    }

    private static void apart(String one, String other) {
        Kit.sound(two(one, other), 2, 0);
        Kit.sound(two(other, one), 2, 0);
    }

    private static void touching(String one, String other) {
        Kit.faulty(two(one, other), 5, lastNumber(two(one, other)));
        Kit.faulty(two(other, one), 5, lastNumber(two(other, one)));
    }

    private static void pointInCommon() {
        Kit.says("a SEGMENT that has a point in common with one told ahead, but for one that is an end of both");
        // Across one another, and past.
        touching("0 0 to 60 60", "0 60 to 60 0");
        touching("0 0 to 60 60", "29 30 to 30 29");
        apart("0 0 to 60 60", "29 30 to 31 32");
        apart("0 0 to 60 60", "28 30 to 29 30");
        touching("0 0 to 60 60", "28 30 to 31 30");
        // The end of one in the midst of the other, or a hair beside it.
        touching("0 0 to 60 60", "30 30 to 60 0");
        touching("0 0 to 60 60", "0 60 to 30 30");
        touching("0 0 to 60 60", "28 30 to 30 30");
        apart("0 0 to 60 60", "30 29 to 60 0");
        apart("0 0 to 60 60", "0 60 to 30 31");
        apart("0 0 to 60 1", "30 0 to 31 0");
        touching("0 0 to 60 1", "30 0 to 31 1");
        apart("0 0 to 60 1", "30 1 to 31 1");
        apart("0 0 to 59 60", "1 1 to 59 59");
        touching("0 0 to 59 60", "1 2 to 60 60");
        // On one another.
        touching("0 0 to 60 60", "0 0 to 60 60");
        touching("0 0 to 60 60", "10 10 to 20 20");
        touching("0 0 to 20 20", "19 19 to 40 40");
        apart("0 0 to 20 20", "21 21 to 40 40");
        apart("0 0 to 60 60", "0 1 to 59 60");
        // One place across in common, but no point.
        apart("0 0 to 20 20", "20 21 to 40 20");
        apart("0 0 to 20 20", "20 19 to 40 20");
    }

    private static void endOfBoth() {
        Kit.says("but for one that is an end of both");
        apart("0 0 to 20 20", "20 20 to 40 40");
        apart("0 0 to 20 20", "20 20 to 40 0");
        apart("0 0 to 20 20", "0 0 to 20 19");
        apart("0 0 to 20 20", "0 0 to 40 39");
        apart("0 0 to 20 20", "0 1 to 20 20");
        apart("0 0 to 20 20", "10 0 to 20 20");
        // An end of both, and another point.
        touching("0 0 to 20 20", "0 0 to 20 20");
        touching("0 0 to 20 20", "0 0 to 10 10");
        touching("0 0 to 20 20", "0 0 to 21 21");
        touching("0 0 to 20 20", "10 10 to 20 20");
        // An end of one alone.
        touching("0 0 to 20 20", "19 20 to 21 20");
        touching("10 10 to 20 20", "0 0 to 20 20");
        // Three and four that have one end in common.
        Kit.sound("seg a at 0 30 to 30 30;seg b at 0 0 to 30 30;seg c at 30 30 to 60 60;seg d at 30 30 to 60 0;"
                + "seg e at 0 60 to 30 30;", 5, 0);
        Kit.faulty("seg a at 0 30 to 30 30;seg b at 0 0 to 30 30;seg c at 29 30 to 60 60;", 5, 66);
    }

    private static void newObject() {
        Kit.says("An empty MAP (3 slots).");
        StampMap x = new StampMap();
        for (int what = 0; what <= 12; what++) {
            Kit.due("about(" + what + ")", x.about(what), what == 5 ? 3 : 0);
        }
        int[] none = {x.next(), x.sweep(), x.cut(0), x.raise(0), x.dearest(), x.busiest(), x.largest(), x.row(1),
            x.back(0), x.back(1), x.back(2), x.node(0, 0) + 1, x.version(1, 0) + 1, x.segment(0, 0) + 1};
        for (int answer : none) {
            Kit.due("what there is none of", answer, -1);
        }
        Kit.due("undo()", x.undo(), false);
        Kit.due("redo()", x.redo(), false);
        Kit.due("untell(0)", x.untell(0), false);
        Kit.due("version(0, 0)", x.version(0, 0), 0);
        Kit.due("below(0, -9)", x.below(0, -9), -1);
        Kit.due("below(60, 99)", x.below(60, 99), -1);
        Kit.due("area(-1)", x.area(-1), 61 * 61);
        Kit.due("hidden(0)", x.hidden(0), 0);
        Kit.due("hidden(1)", x.hidden(1), 0);
        Kit.due("hidden(2)", x.hidden(2), 0);
        Kit.due("fits(0, 0)", x.fits(0, 0), 61);
    }

    private static void feed() {
        Kit.says("Twenty bytes come behind those on the TAPE, of each number the highest first: how many there are");
        StampMap x = new StampMap();
        for (int i = 1; i <= 80; i++) {
            Kit.due("feed", x.feed(-1, Integer.MIN_VALUE, Integer.MAX_VALUE, 0, i), 20 * i);
            Kit.due("about(10)", x.about(10), 20 * i);
        }
        x = new StampMap();
        x.feed(0x736c6f74, 0x7320353b, 0, 0, 0);
        x.end(8);
        Kit.due("feed behind 8 bytes", x.feed(0x64726177, 0x20313b00, 0, 0, 0), 28);
        x.end(15);
        Kit.due("map() of both", x.map(), 0);
        Kit.due("about(5)", x.about(5), 5);
    }

    private static void fedBytes() {
        Kit.says("of each number the highest first");
        // Each of the twenty places is that of its own byte, all of its bits.
        for (int place = 0; place < 20; place++) {
            int[] bytes = {0, 1, 127, 128, 255};
            for (int sign : bytes) {
                StampMap x = new StampMap();
                int[] n = {0x20202020, 0x20202020, 0x20202020, 0x20202020, 0x20202020};
                int shift = 24 - 8 * (place % 4);
                n[place / 4] = n[place / 4] & ~(255 << shift) | sign << shift;
                x.feed(n[0], n[1], n[2], n[3], n[4]);
                Kit.due("map() with byte " + sign, x.map(), -1);
                Kit.due("fault(0)", x.fault(0), 1);
                Kit.due("fault(1)", x.fault(1), place);
            }
        }
    }

    private static StampMap fed(int bytes) {
        StampMap x = Kit.rich("");
        Kit.put(x, blanks(bytes - 8) + "slots 4;");
        return x;
    }

    private static void feedTooMany() {
        Kit.says("NONE, and nothing comes, if there would be more than 1,600");
        Kit.due("feed behind 1580", fed(1580).feed(0, 0, 0, 0, 0), 1600);
        Kit.refused("feed behind 1581", () -> fed(1581), x -> x.feed(0, 0, 0, 0, 0), -1);
        Kit.refused("feed behind 1600", () -> fed(1600), x -> x.feed(-1, -1, -1, -1, -1), -1);
        StampMap x = fed(1600);
        x.feed(0, 0, 0, 0, 0);
        x.end(1580);
        Kit.due("feed when there is room again", x.feed(0, 0, 0, 0, 0), 1600);
        // A map, or a fault, empties the tape.
        Kit.due("map()", x.map(), -1);
        Kit.due("feed behind a fault", x.feed(0, 0, 0, 0, 0), 20);
        Kit.put(x, blanks(20));
        x.end(0);
        x.map();
        Kit.due("feed behind a map", x.feed(0, 0, 0, 0, 0), 20);
    }

    private static void end() {
        Kit.says("The TAPE has its first n bytes: n");
        String text = "slots 5;draw 1;";
        for (int n = 0; n <= 20; n++) {
            StampMap x = new StampMap();
            Kit.put(x, text);
            x.end(0);
            x.feed(0x736c6f74, 0x7320353b, 0x64726177, 0x20313b20, 0x20202020);
            Kit.due("end(" + n + ")", x.end(n), n);
            Kit.due("about(10)", x.about(10), n);
            boolean isMap = n == 0 || n == 8 || n >= 15;
            Kit.due("map() of " + n + " bytes", x.map(), isMap ? 0 : -1);
            boolean inWord = n < 5 || n > 8 && n < 12;
            int place = inWord ? n / 8 * 8 : n;
            Kit.due("fault(1)", x.fault(1), isMap ? -1 : place);
            Kit.due("about(5)", x.about(5), isMap && n > 0 ? 5 : 3);
        }
    }

    private static void endRefused() {
        Kit.says("NONE, doing nothing, if it has not so many, or n is below 0");
        int bytes = Kit.rich().about(10);
        Kit.due("end() of all", Kit.rich().end(bytes), bytes);
        Kit.due("end(0)", Kit.rich().end(0), 0);
        Kit.refused("end() of all", Kit::rich, x -> x.end(bytes), bytes);
        Kit.refused("end() of one more", Kit::rich, x -> x.end(bytes + 1), -1);
        Kit.refused("end(1601)", Kit::rich, x -> x.end(1601), -1);
        Kit.refused("end(max)", Kit::rich, x -> x.end(Integer.MAX_VALUE), -1);
        Kit.refused("end(-1)", Kit::rich, x -> x.end(-1), -1);
        Kit.refused("end(min)", Kit::rich, x -> x.end(Integer.MIN_VALUE), -1);
        Kit.due("end(1) of an empty tape", new StampMap().end(1), -1);
        Kit.due("end(0) of an empty tape", new StampMap().end(0), 0);
    }

    private static void map() {
        Kit.says("The TAPE (empty then) is the MAP (STAMP 0, no NODES, no ACTS are kept, nothing is SEEN, "
                + "nothing lies there, BOXES are empty then; the TIME stays): how many SEGMENTS");
        String text = "seg q at 3 3 to 9 3;slots 4;weighs 1+2;";
        StampMap x = Kit.rich(text);
        for (int box = 0; box < 3; box++) {
            Kit.due("image(" + box + ")", x.image(box), 3);
        }
        x.cut(0);
        x.redo();
        Kit.due("map()", x.map(), 1);
        int[] anew = {1, 0, 0, 0, 0, 4, 0, 0, 0, 10, 0, 2, 0};
        for (int what = 0; what <= 12; what++) {
            Kit.due("about(" + what + ")", x.about(what), anew[what]);
        }
        Kit.due("version(0, 1)", x.version(0, 1), 0);
        Kit.due("version(1, 0)", x.version(1, 0), -2);
        Kit.due("node(0, 0)", x.node(0, 0), -2);
        Kit.due("undo()", x.undo(), false);
        Kit.due("redo()", x.redo(), false);
        Kit.due("untell(1)", x.untell(1), false);
        Kit.due("lies(0)", x.lies(0), -2);
        Kit.due("segment(0, 5)", x.segment(0, 5), 0);
        Kit.due("next()", x.next(), 3);
        for (int box = 0; box < 3; box++) {
            Kit.due("back(" + box + ")", x.back(box), -1);
        }
        Kit.refused("a map as if it were the first", () -> {
            StampMap y = Kit.rich("");
            y.image(1);
            Kit.put(y, text);
            return y;
        }, () -> {
            StampMap y = new StampMap();
            y.later(10);
            Kit.put(y, text);
            y.map();
            return y;
        }, StampMap::map, 1);
        Kit.due("map() of nothing more", x.map(), 0);
        Kit.due("about(5)", x.about(5), 3);
        Kit.due("about(11)", x.about(11), 0);
    }

    private static void mapWithFault() {
        Kit.says("NONE: a FAULT (the TAPE is empty then, too; all else stays)");
        Kit.refused("map() with a fault", () -> Kit.rich("slots 9;"), () -> Kit.rich(""), StampMap::map, -1);
        StampMap x = Kit.rich("slots 5;slots 5;");
        Kit.due("map()", x.map(), -1);
        Kit.due("about(10)", x.about(10), 0);
        Kit.due("about(5)", x.about(5), 2);
        // All of a sound beginning is nothing, too.
        Kit.refused("map() with a fault at its end",
            () -> Kit.rich("draw 7;weighs 5;seg z at 1 1 to 2 2;slots 6;seg y at 3 3 to 4 4;;"), () -> {
                StampMap y = Kit.rich("");
                Kit.put(y, blanks(64) + ";");
                y.map();
                return y;
            }, StampMap::map, -1);
    }

    private static void faultOfTheLatest() {
        Kit.says("Of the latest map() what 0: its FAULT (0: without; ahead of any, too), 1: its place (NONE).");
        StampMap x = new StampMap();
        Kit.due("fault(0) ahead of any", x.fault(0), 0);
        Kit.due("fault(1) ahead of any", x.fault(1), -1);
        String[] texts = {"$", " at", "seg a at 0 0 to 1 1;seg a", "slots 7", "", "seg a at 0 0 to 1 1;seg b at 0 0 to 1 1"};
        int[] faults = {1, 2, 3, 4, 0, 5};
        int[] places = {0, 1, 24, 6, -1, 38};
        for (int i = 0; i < texts.length; i++) {
            Kit.put(x, texts[i]);
            Kit.due("map() of " + texts[i], x.map(), faults[i] == 0 ? 0 : -1);
            Kit.due("fault(0)", x.fault(0), faults[i]);
            Kit.due("fault(1)", x.fault(1), places[i]);
            Kit.put(x, "slots 1;$");
            Kit.due("fault(0), not taken as the map yet", x.fault(0), faults[i]);
            x.end(0);
        }
    }

    private static void faultOfAnother() {
        Kit.says("NONE for another what.");
        StampMap x = Kit.rich();
        Kit.due("fault(0)", x.fault(0), 4);
        Kit.due("fault(1)", x.fault(1), 6);
        int[] others = {-1, 2, 3, 12, Integer.MIN_VALUE, Integer.MAX_VALUE};
        for (int what : others) {
            Kit.refused("fault(" + what + ")", Kit::rich, y -> y.fault(what), -1);
        }
    }
}
