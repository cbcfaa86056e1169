/**
 * Each promise of the document by hand: ordinary inputs, the edges that it names, wrong inputs.
 * A method is named after the promise that it would show to be broken.
 */
public final class PromisesTest {
    private static int wrong = 0;
    private static String about = "";

    // Three segments: a flat one, one above it and one below it; a weighs most, then b, then c.
    private static final String THREE = "seg a at 0 10 to 20 10;seg b at 5 20 to 15 30;"
            + "seg c at 5 5 to 10 0;weighs 9-number;slots 2;";
    // Eight flat segments, one above the other, over all of the map.
    private static final String EIGHT = "seg a at 0 1 to 60 1;seg b at 0 2 to 60 2;seg c at 0 3 to 60 3;"
            + "seg d at 0 4 to 60 4;seg e at 0 5 to 60 5;seg f at 0 6 to 60 6;seg g at 0 7 to 60 7;"
            + "seg h at 0 8 to 60 8;";

    public static void main(String[] args) {
        promise1();
        promise2and3();
        promise4();
        promise5tokens();
        promise5misplaced();
        promise5limits();
        promise5anew();
        promise5names();
        promise5numbers();
        promise5common();
        promise6();
        promise7();
        promise7luck();
        promise8();
        promise9();
        promise10and11();
        promise12and13();
        promise12slots();
        promise14and15and16and17();
        promise18and19();
        promise20to23();
        promise24();
        promise25and26();
        promise27and28();
        promise29to35();
        promise36to38();
        promise39();
        promise40();
        promise41and42();
        promise43();
        promise44and45();
        promise46();
        promise47and48();
        promise49();
        promise50to52();
        promise50times();
        promise53and54();
        promise55();
        System.out.println(wrong == 0 ? "all promises are kept" : wrong + " answers are not as due");
        if (wrong != 0) {
            System.exit(1);
        }
    }

    private static void due(String call, long got, long want) {
        if (got != want) {
            wrong++;
            System.out.println(about + ": " + call + " answered " + got + ", due is " + want);
        }
    }

    private static void due(String call, boolean got, boolean want) {
        due(call, got ? 1 : 0, want ? 1 : 0);
    }

    private static void put(StampMap x, String text) {
        for (int at = 0; at < text.length(); at += 20) {
            int[] n = new int[5];
            for (int i = 0; i < 20; i++) {
                int sign = at + i < text.length() ? text.charAt(at + i) : 0;
                n[i / 4] |= sign << (24 - 8 * (i % 4));
            }
            x.feed(n[0], n[1], n[2], n[3], n[4]);
        }
        x.end(text.length());
    }

    private static StampMap told(String text) {
        StampMap x = new StampMap();
        put(x, text);
        due("map() of " + text, x.map() >= 0, true);
        return x;
    }

    private static StampMap swept(String text, int times) {
        StampMap x = told(text);
        for (int i = 0; i < times; i++) {
            x.sweep();
        }
        return x;
    }

    private static void faulty(String text, int fault, int place) {
        StampMap x = new StampMap();
        put(x, text);
        due("map() of " + text, x.map(), -1);
        due("fault(0) of " + text, x.fault(0), fault);
        due("fault(1) of " + text, x.fault(1), place);
    }

    private static void sound(String text, int segments, int units) {
        StampMap x = new StampMap();
        put(x, text);
        due("map() of " + text, x.map(), segments);
        due("fault(0) of " + text, x.fault(0), 0);
        due("fault(1) of " + text, x.fault(1), -1);
        due("about(11) of " + text, x.about(11), units);
    }

    private static void promise1() {
        about = "promise 1";
        StampMap x = new StampMap();
        for (int what = 0; what <= 12; what++) {
            due("about(" + what + ")", x.about(what), what == 5 ? 3 : 0);
        }
        due("NONE", StampMap.NONE, -1);
        due("events()", x.events(), 0);
        due("area(-1)", x.area(-1), 3721);
        due("back(0)", x.back(0), -1);
    }

    private static void promise2and3() {
        about = "promises 2, 3";
        StampMap x = new StampMap();
        for (int i = 1; i <= 80; i++) {
            due("feed", x.feed(i, 0, -1, Integer.MIN_VALUE, 7), 20 * i);
        }
        due("the 81st feed", x.feed(1, 1, 1, 1, 1), -1);
        due("about(10)", x.about(10), 1600);
        due("end(1601)", x.end(1601), -1);
        due("end(-1)", x.end(-1), -1);
        due("about(10)", x.about(10), 1600);
        due("end(1600)", x.end(1600), 1600);
        due("end(1581)", x.end(1581), 1581);
        due("feed at 1581", x.feed(1, 1, 1, 1, 1), -1);
        due("about(10)", x.about(10), 1581);
        due("end(1580)", x.end(1580), 1580);
        due("feed at 1580", x.feed(1, 1, 1, 1, 1), 1600);
        due("end(0)", x.end(0), 0);
        due("about(10)", x.about(10), 0);
        due("end(1)", x.end(1), -1);
        // The highest byte first, over all five numbers; end keeps the first ones.
        x.feed(0x736c6f74, 0x73202020, 0x20202020, 0x20202020, 0x2020353b);
        due("map()", x.map(), 0);
        due("about(5)", x.about(5), 5);
        x.feed(0x64726177, 0x20313b80, -1, -1, -1);
        x.end(7);
        due("map()", x.map(), 0);
        x.feed(0x64726177, 0x20313b80, -1, -1, -1);
        x.end(8);
        due("map()", x.map(), -1);
        due("fault(0)", x.fault(0), 1);
        due("fault(1)", x.fault(1), 7);
    }

    private static void promise4() {
        about = "promise 4";
        StampMap x = swept(THREE, 2);
        x.later(5);
        x.seen(0, true);
        x.image(1);
        x.undo();
        x.row(1);
        put(x, "seg a at 1 1 to 2 2;seg");
        due("map()", x.map(), -1);
        int[] stays = {3, 1, 0, 1, 1, 2, 1, 1, 1, 5, 0, 2, 1};
        for (int what = 0; what <= 12; what++) {
            due("about(" + what + ") behind a fault", x.about(what), stays[what]);
        }
        due("redo() behind a fault", x.redo(), true);
        due("back(1) behind a fault", x.back(1), 2);
        x.row(1);
        put(x, "seg q at 0 3 to 9 3;slots 4;");
        due("about(10)", x.about(10), 28);
        due("map()", x.map(), 1);
        int[] anew = {1, 0, 0, 0, 0, 4, 0, 0, 0, 5, 0, 0, 0};
        for (int what = 0; what <= 12; what++) {
            due("about(" + what + ") anew", x.about(what), anew[what]);
        }
        for (int box = 0; box < 3; box++) {
            due("back(" + box + ")", x.back(box), -1);
        }
        due("undo()", x.undo(), false);
        due("redo()", x.redo(), false);
        due("map() of an empty tape", x.map(), 0);
        due("about(5)", x.about(5), 3);
        due("about(0)", x.about(0), 0);
    }

    private static void promise5tokens() {
        about = "promise 5, tokens";
        StampMap x = new StampMap();
        due("fault(0)", x.fault(0), 0);
        due("fault(1)", x.fault(1), -1);
        due("fault(-1)", x.fault(-1), -1);
        due("fault(2)", x.fault(2), -1);
        put(x, "slots 9;");
        x.map();
        due("fault(0)", x.fault(0), 4);
        put(x, "slots 6;");
        x.map();
        due("fault(0) of the latest", x.fault(0), 0);
        due("fault(1) of the latest", x.fault(1), -1);
        sound("", 0, 0);
        sound(" \n ", 0, 0);
        sound("seg abcdefgh at\n0 0 to 0001 0060;", 1, 0);
        sound("seg a at0 0 to1 1;", 1, 0);
        sound("weighs(number+across)*2;", 0, 4);
        sound("weighs 1<2 and(3);", 0, 4);
        faulty("seg abcdefghi at 0 0 to 1 1;", 1, 4);
        faulty("slots 00001;", 1, 6);
        faulty("slots 3x;", 1, 6);
        faulty("seg a at 0to 1 1 1;", 1, 9);
        faulty("slots 3\t;", 1, 7);
        faulty("slots 3;A", 1, 8);
        faulty("slots 3;\u00e9", 1, 8);
        faulty("slots 3;\0", 1, 8);
        faulty("abcdefghi", 1, 0);
        faulty("weighs 1&2;", 1, 8);
    }

    private static void promise5misplaced() {
        about = "promise 5, what can't stand there";
        faulty(";", 2, 0);
        faulty("  at", 2, 2);
        faulty("slots 3", 2, 7);
        faulty("slots 3 \n", 2, 9);
        faulty("slots", 2, 5);
        faulty("slots x", 2, 6);
        faulty("seg 5", 2, 4);
        faulty("seg luck at", 2, 4);
        faulty("seg a to", 2, 6);
        faulty("seg a at x", 2, 9);
        faulty("seg a at 1 ;", 2, 11);
        faulty("seg a at 0 0 at", 2, 13);
        faulty("seg a at 0 0 to 1 1 1", 2, 20);
        faulty("slots 3;slots 3;", 2, 8);
        faulty("draw 3;draw 3;", 2, 7);
        faulty("weighs 1;slots 2;weighs 1;", 2, 17);
        faulty("weighs;", 2, 6);
        faulty("weighs 1 2;", 2, 9);
        faulty("weighs 1+;", 2, 9);
        faulty("weighs -1;", 2, 7);
        faulty("weighs 1+not 2;", 2, 9);
        faulty("weighs 1<not 2;", 2, 9);
        faulty("weighs 1 not 2;", 2, 9);
        faulty("weighs 1<2=3;", 2, 10);
        faulty("weighs 1<2+1>3;", 2, 12);
        faulty("weighs not 1<2=3;", 2, 14);
        faulty("weighs (1<2;", 2, 11);
        faulty("weighs 1);", 2, 8);
        faulty("weighs ();", 2, 8);
        faulty("weighs 1 or;", 2, 11);
        faulty("weighs and 1;", 2, 7);
        faulty("weighs x;", 2, 7);
        sound("weighs (1<2)<3 and not 1=2 or not not (3>1)<2;", 0, 10);
    }

    private static String times(String part, int many) {
        StringBuilder text = new StringBuilder();
        for (int i = 0; i < many; i++) {
            text.append(part);
        }
        return text.toString();
    }

    private static void promise5limits() {
        about = "promise 5, limits";
        sound(EIGHT, 8, 0);
        faulty(EIGHT + "seg i at 0 9 to 60 9;", 2, EIGHT.length());
        faulty(EIGHT + " seg a", 2, EIGHT.length() + 1);
        sound("weighs 1" + times("+1", 29) + ";", 0, 30);
        faulty("weighs 1" + times("+1", 30) + ";", 2, 67);
        faulty("weighs 1" + times("+1", 29) + "+(1);", 2, 67);
        sound("weighs (1" + times("+1", 28) + ");", 0, 30);
        faulty("weighs (1" + times("+1", 29) + ");", 2, 66);
        sound("weighs " + times("(", 7) + "1" + times(")", 7) + ";", 0, 8);
        faulty("weighs " + times("(", 8) + "1" + times(")", 8) + ";", 2, 14);
        sound("weighs " + times("not ", 7) + "1;", 0, 1);
        faulty("weighs " + times("not ", 8) + "1;", 2, 35);
        sound("weighs not (not (not (not 1)));", 0, 4);
        faulty("weighs not (not (not (not (1))));", 2, 26);
        sound("weighs " + times("not ", 7) + "1 and " + times("not ", 7) + "1;", 0, 2);
        sound("weighs " + times("(", 7) + "1" + times(")", 7) + "+" + times("(", 7) + "1" + times(")", 7) + ";", 0, 16);
        faulty("weighs " + times("not ", 7) + "1=(2);", 2, 37);
    }

    private static void promise5anew() {
        about = "promise 5, nothing is left of a text with a fault";
        String[] faults = {"weighs ((((((1", "weighs not not not not 1<(2+3 or", "slots 2;draw 5;weighs 1;seg a at 1 1 to 9 9;$"};
        StampMap x = new StampMap();
        for (String text : faults) {
            put(x, text);
            due("map() of " + text, x.map(), -1);
            put(x, "weighs ((((((not 1<2))))));slots 4;draw 0;seg a at 5 5 to 6 6;");
            due("map() behind " + text, x.map(), 1);
            due("weight(0)", x.weight(0), 0);
            put(x, "seg b at 5 5 to 6 6;");
            due("map() with nothing but b", x.map(), 1);
            due("weight(0)", x.weight(0), 71);
            due("about(5)", x.about(5), 3);
            due("about(11)", x.about(11), 0);
            put(x, "weighs 1);");
            due("map() of a bracket too many", x.map(), -1);
        }
    }

    private static void promise5names() {
        about = "promise 5, names";
        faulty("seg a at 0 0 to 1 1;seg a at 70", 3, 24);
        faulty("seg abcdefgh at 0 0 to 1 1;seg b at 0 5 to 1 5;seg abcdefgh;", 3, 51);
        sound("seg abcdefgh at 0 0 to 1 1;seg bbcdefgh at 0 5 to 1 5;", 2, 0);
        sound("seg azyz at 0 0 to 1 1;seg z at 0 5 to 1 5;", 2, 0);
        sound("seg line at 0 0 to 1 1;seg e at 0 5 to 1 5;seg map at 0 9 to 1 9;", 3, 0);
        StampMap x = told("seg a at 0 0 to 1 1;");
        put(x, "seg a at 0 0 to 1 1;");
        due("map() with the same name again", x.map(), 1);
        String[] words = {"seg", "at", "to", "weighs", "slots", "draw", "or", "and", "not", "number", "across",
            "width", "rise", "luck"};
        for (String word : words) {
            faulty("seg " + word, 2, 4);
        }
    }

    private static void promise5numbers() {
        about = "promise 5, numbers";
        sound("seg a at 59 60 to 60 0;seg b at 0 0 to 60 0;", 2, 0);
        faulty("seg a at 60 0 to 60 0;", 4, 9);
        faulty("seg a at 0 61 to 60 0;", 4, 11);
        faulty("seg a at 5 0 to 5 0;", 4, 16);
        faulty("seg a at 5 0 to 4 0;", 4, 16);
        faulty("seg a at 5 0 to 61 0;", 4, 16);
        faulty("seg a at 5 0 to 60 61;", 4, 19);
        sound("slots 1;", 0, 0);
        faulty("slots 0;", 4, 6);
        faulty("slots 7;", 4, 6);
        sound("draw 0999;", 0, 0);
        faulty("draw 1000;", 4, 5);
        sound("weighs 9999;", 0, 1);
    }

    private static void promise5common() {
        about = "promise 5, points in common";
        String first = "seg a at 10 10 to 30 30;";
        int behind = first.length();
        // Crossing, touching in the middle of either, one on the other, both alike.
        faulty(first + "seg b at 10 30 to 30 10;", 5, behind + 21);
        faulty(first + "seg b at 20 20 to 30 10;", 5, behind + 21);
        faulty(first + "seg b at 5 60 to 20 20;", 5, behind + 20);
        faulty(first + "seg b at 5 10 to 30 10;seg c at 10 10 to 11 0;", 5, behind + 20);
        faulty(first + "seg b at 15 15 to 25 25;", 5, behind + 21);
        faulty(first + "seg b at 10 10 to 20 20;", 5, behind + 21);
        faulty(first + "seg b at 20 20 to 30 30;", 5, behind + 21);
        faulty(first + "seg b at 0 0 to 40 40;", 5, behind + 19);
        faulty(first + "seg b at 10 10 to 30 30;", 5, behind + 21);
        faulty("seg b at 0 0 to 60 1;seg a at 30 0 to 31 1;", 5, 41);
        // An end of both, in all four ways, and none in common at one place across.
        sound(first + "seg b at 10 10 to 30 20;", 2, 0);
        sound(first + "seg b at 10 20 to 30 30;", 2, 0);
        sound(first + "seg b at 30 30 to 40 40;", 2, 0);
        sound(first + "seg b at 0 0 to 10 10;", 2, 0);
        sound(first + "seg b at 30 20 to 40 40;", 2, 0);
        sound(first + "seg b at 20 31 to 40 31;seg c at 20 19 to 40 19;", 3, 0);
        sound("seg b at 0 0 to 60 1;seg a at 30 0 to 31 0;", 2, 0);
        // The fault in the last number itself is the lesser one.
        faulty(first + "seg b at 10 30 to 30 61;", 4, behind + 21);
        faulty(first + "seg c at 0 50 to 60 50;seg b at 10 0 to 30 51;", 5, behind + 43);
    }

    private static void promise6() {
        about = "promise 6";
        StampMap x = told(THREE);
        int[] b = {5, 20, 15, 30, 0, 0, -1};
        for (int what = 0; what < 7; what++) {
            due("segment(1, " + what + ")", x.segment(1, what), b[what]);
        }
        due("segment(1, 7)", x.segment(1, 7), -2);
        due("segment(1, -1)", x.segment(1, -1), -2);
        due("segment(3, 0)", x.segment(3, 0), -2);
        due("segment(-1, 0)", x.segment(-1, 0), -2);
        x.sweep();
        x.sweep();
        due("segment(1, 4)", x.segment(1, 4), 1);
        due("segment(1, 6)", x.segment(1, 6), 2);
        x.cut(1);
        due("segment(1, 4) cut", x.segment(1, 4), 0);
        due("segment(1, 5) cut", x.segment(1, 5), 1);
        due("segment(1, 6) cut", x.segment(1, 6), -1);
        x.raise(1);
        due("segment(1, 5) raised", x.segment(1, 5), 0);
        due("segment(1, 6) raised", x.segment(1, 6) > 2, true);
        x.cut(1);
        x.sweep();
        x.sweep();
        due("segment(1, 5) behind its end", x.segment(1, 5), 1);
        due("raise(1) behind its end", x.raise(1), -1);
    }

    private static int weight(String formula, int segment) {
        StampMap x = told("seg a at 3 9 to 10 4;seg b at 4 20 to 14 26;weighs " + formula + ";");
        return x.weight(segment);
    }

    private static void promise7() {
        about = "promise 7";
        due("number", weight("number", 1), 1);
        due("across", weight("across", 0), 3);
        due("width", weight("width", 0), 7);
        due("rise down", weight("rise", 0), -5);
        due("rise up", weight("rise", 1), 6);
        due("9999", weight("9999", 1), 9999);
        due("1-2-3", weight("1-2-3", 0), -4);
        due("2+3*4", weight("2+3*4", 0), 14);
        due("(2+3)*4", weight("(2+3)*4", 0), 20);
        due("100/7/2", weight("100/7/2", 0), 7);
        due("100/(7/2)", weight("100/(7/2)", 0), 33);
        due("100%7*2", weight("100%7*2", 0), 4);
        due("rise/2", weight("rise/2", 0), -2);
        due("rise%3", weight("rise%3", 0), -2);
        due("1/0", weight("1/0+5", 0), 5);
        due("1%0", weight("1%0+5", 0), 5);
        due("wraps", weight("9999*9999*9999", 0), 9999 * 9999 * 9999);
        due("least by -1", weight("2048*1024*1024/(0-1)", 0), Integer.MIN_VALUE);
        due("rest of the least by -1", weight("2048*1024*1024%(0-1)+3", 0), 3);
        due("1<2", weight("1<2", 0), 1);
        due("2<2", weight("2<2", 0), 0);
        due("3>2", weight("3>2", 0), 1);
        due("2>2", weight("2>2", 0), 0);
        due("2=2", weight("2=1+1", 0), 1);
        due("2=3", weight("2=3", 0), 0);
        due("not 7", weight("not 7", 0), 0);
        due("not 0", weight("not 0", 0), 1);
        due("not not 7", weight("not not 7", 0), 1);
        due("not 1<0", weight("not 1<0", 0), 1);
        due("not 0 and 0", weight("not 0 and 0", 0), 0);
        due("5 and 7", weight("5 and 7", 0), 1);
        due("5 and 0", weight("5 and 0", 0), 0);
        due("0 or 8", weight("0 or 8", 0), 1);
        due("0 or 0", weight("0 or 0", 0), 0);
        due("1 or 1 and 0", weight("1 or 1 and 0", 0), 1);
        due("(1 or 1) and 0", weight("(1 or 1) and 0", 0), 0);
        due("(4 or 0)+(3 and 2)", weight("(4 or 0)+(3 and 2)", 0), 2);
        due("weight(2)", told("seg a at 0 0 to 1 1;seg b at 2 0 to 3 1;").weight(2), 0);
        due("weight(-1)", told("seg a at 0 0 to 1 1;").weight(-1), 0);
    }

    private static void promise7luck() {
        about = "promise 7, luck";
        StampMap x = told(EIGHT + "draw 777;");
        int luck = 777;
        for (int k = 0; k < 8; k++) {
            luck = (luck * 137 + 71) % 1000;
            due("weight(" + k + ")", x.weight(k), luck % 100);
        }
        x = told("weighs 1000+luck;seg a at 0 0 to 1 1;draw 5;");
        due("weight(0)", x.weight(0), 1000 + 56);
        x = told("seg a at 0 0 to 1 1;");
        due("weight(0) without draw", x.weight(0), 71);
    }

    private static void promise8() {
        about = "promise 8";
        StampMap x = told("seg a at 0 10 to 20 30;seg b at 0 10 to 10 10;seg c at 0 10 to 20 40;"
                + "seg d at 20 30 to 30 31;seg e at 5 60 to 60 0;");
        due("higher(0, 1, 0)", x.higher(0, 1, 0), 1);
        due("higher(1, 0, 0)", x.higher(1, 0, 0), 0);
        due("higher(0, 2, 0)", x.higher(0, 2, 0), 0);
        due("higher(2, 1, 0)", x.higher(2, 1, 0), 1);
        due("higher(2, 0, 19)", x.higher(2, 0, 19), 1);
        due("higher(2, 0, 20)", x.higher(2, 0, 20), -1);
        due("higher(3, 0, 20)", x.higher(3, 0, 20), -1);
        due("higher(1, 0, 10)", x.higher(1, 0, 10), -1);
        due("higher(4, 0, 4)", x.higher(4, 0, 4), -1);
        due("higher(4, 0, 5)", x.higher(4, 0, 5), 1);
        due("higher(0, 4, 5)", x.higher(0, 4, 5), 0);
        due("higher(0, 1, -1)", x.higher(0, 1, -1), -1);
        due("higher(0, 0, 3)", x.higher(0, 0, 3), -1);
        due("higher(-1, 0, 3)", x.higher(-1, 0, 3), -1);
        due("higher(0, 5, 3)", x.higher(0, 5, 3), -1);
        due("higher(0, 1, max)", x.higher(0, 1, Integer.MAX_VALUE), -1);
    }

    private static void promise9() {
        about = "promise 9";
        StampMap x = told("seg a at 0 0 to 10 0;seg b at 10 0 to 20 0;seg c at 5 9 to 10 8;");
        due("sweep() to 0", x.sweep(), 1);
        due("sweep() to 5", x.sweep(), 2);
        due("sweep() to 10", x.sweep(), 1);
        due("in", x.about(3), 2);
        due("sweep() to 20", x.sweep(), 0);
        due("sweep() behind all", x.sweep(), -1);
        due("about(1)", x.about(1), 4);
        x = swept("seg a at 0 0 to 10 0;seg b at 1 5 to 10 5;", 1);
        for (int i = 0; i < 19; i++) {
            x.cut(0);
            x.raise(0);
        }
        due("sweep() as the 40th", x.sweep(), 2);
        due("cut behind 40", x.cut(0), -1);
        due("sweep behind 40", x.sweep(), -1);
        due("raise behind 40", x.raise(0), -1);
        due("about(1)", x.about(1), 40);
        due("about(6)", x.about(6), 40);
        x.undo();
        due("cut(0) as the 40th", x.cut(0), 0);
        due("raise(0) as the 41st", x.raise(0), -1);
        int[] fortieth = {0, 0, -1, 0, 0};
        for (int what = 0; what < 5; what++) {
            due("version(40, " + what + ")", x.version(40, what), fortieth[what]);
        }
        due("next() at 40", x.next(), 1);
        due("segment(0, 5) at 40", x.segment(0, 5), 1);
        due("segment(1, 5) at 40", x.segment(1, 5), 0);
        x.undo();
        x.sweep();
        due("version(40, 2)", x.version(40, 2), x.segment(1, 6));
        due("version(40, 4)", x.version(40, 4), 1);
        due("segment(0, 5) at 40", x.segment(0, 5), 0);
        x.undo();
        x.cut(0);
        for (int i = 0; i < 40; i++) {
            due("undo()", x.undo(), true);
        }
        due("undo() of nothing", x.undo(), false);
        for (int i = 0; i < 40; i++) {
            due("redo()", x.redo(), true);
        }
        due("redo() of nothing", x.redo(), false);
        due("about(1)", x.about(1), 40);
        due("segment(0, 5)", x.segment(0, 5), 1);
    }

    private static void promise10and11() {
        about = "promises 10, 11";
        StampMap x = told(THREE);
        due("cut(0) not in", x.cut(0), -1);
        x.sweep();
        x.sweep();
        due("cut(3)", x.cut(3), -1);
        due("cut(-1)", x.cut(-1), -1);
        due("raise(0) never cut", x.raise(0), -1);
        due("raise(3)", x.raise(3), -1);
        due("raise(-1)", x.raise(-1), -1);
        due("cut(2)", x.cut(2), 2);
        due("cut(2) again", x.cut(2), -1);
        due("place of the cut", x.version(3, 0), 5);
        due("cut(0)", x.cut(0), 1);
        due("raise(2)", x.raise(2), 2);
        due("raise(2) again", x.raise(2), -1);
        due("place of the raise", x.version(5, 0), 5);
        due("cut(2)", x.cut(2), 1);
        due("sweep()", x.sweep(), 1);
        due("raise(2) at its end", x.raise(2), -1);
        due("raise(0) farther on", x.raise(0), 2);
        due("place of that raise", x.version(8, 0), 10);
        due("in", x.about(3), 3);
    }

    private static void promise12and13() {
        about = "promises 12, 13";
        StampMap x = told(THREE);
        due("undo()", x.undo(), false);
        due("redo()", x.redo(), false);
        x.sweep();
        x.sweep();
        x.cut(1);
        due("about(6)", x.about(6), 3);
        due("undo()", x.undo(), true);
        due("segment(1, 5)", x.segment(1, 5), 0);
        due("segment(1, 4)", x.segment(1, 4), 1);
        due("about(6)", x.about(6), 2);
        due("about(7)", x.about(7), 1);
        due("an act that does nothing", x.raise(1), -1);
        due("about(7) still", x.about(7), 1);
        due("redo()", x.redo(), true);
        due("segment(1, 5)", x.segment(1, 5), 1);
        due("redo()", x.redo(), false);
        x.undo();
        x.undo();
        due("next()", x.next(), 5);
        due("about(4)", x.about(4), 1);
        due("about(7)", x.about(7), 2);
        due("cut(0)", x.cut(0), 0);
        due("about(7) behind another act", x.about(7), 0);
        due("redo() behind another act", x.redo(), false);
        due("about(6)", x.about(6), 2);
    }

    private static void promise12slots() {
        about = "promise 12, slots";
        StampMap x = swept(THREE, 2);
        due("slots used", x.node(0, 4), 2);
        x.undo();
        due("slots used, undone", x.node(0, 4), 0);
        due("change(0, 0, 0), undone", x.change(0, 0, 0), -2);
        due("written()", x.written(), 0);
        due("node(1, 0), undone", x.node(1, 0), -2);
        due("read(0, 0, 1)", x.read(0, 0, 1), -1);
        x.redo();
        due("slots used, done again", x.node(0, 4), 2);
        x.sweep();
        due("copies(0)", x.copies(0), 1);
        due("segment(0, 6)", x.segment(0, 6), 3);
        x.undo();
        due("copies(0), undone", x.copies(0), 0);
        due("segment(0, 6), undone", x.segment(0, 6), 0);
        due("node(0, 6), undone", x.node(0, 6), 1);
        due("segment(2, 6), undone", x.segment(2, 6), 1);
    }

    private static void promise14and15and16and17() {
        about = "promises 14, 15, 16, 17";
        StampMap x = swept(THREE, 3);
        int[][] versions = {{0, 0, -1, 0, 0}, {0, 1, 0, 1, 1}, {5, 7, 0, 2, 4}, {10, 3, 3, 2, 1}};
        for (int stamp = 0; stamp < 4; stamp++) {
            for (int what = 0; what < 5; what++) {
                due("version(" + stamp + ", " + what + ")", x.version(stamp, what), versions[stamp][what]);
            }
        }
        due("version(0, 5)", x.version(0, 5), -2);
        due("version(0, -1)", x.version(0, -1), -2);
        due("version(4, 0)", x.version(4, 0), -2);
        due("version(-1, 0)", x.version(-1, 0), -2);
        int[][] nodes = {{0, 1, -1, -1, 2, -1, 0}, {2, 2, -1, -1, 0, -1, 0}, {1, 2, -1, -1, 0, 3, 1},
            {0, 3, -1, 2, 0, -1, 1}};
        for (int node = 0; node < 4; node++) {
            for (int what = 0; what < 7; what++) {
                due("node(" + node + ", " + what + ")", x.node(node, what), nodes[node][what]);
            }
        }
        due("node(0, 7)", x.node(0, 7), -2);
        due("node(0, -1)", x.node(0, -1), -2);
        due("node(4, 0)", x.node(4, 0), -2);
        due("node(-1, 0)", x.node(-1, 0), -2);
        int[][] changes = {{2, 0, 1}, {2, 1, 2}};
        for (int change = 0; change < 2; change++) {
            for (int what = 0; what < 3; what++) {
                due("change(0, " + change + ", " + what + ")", x.change(0, change, what), changes[change][what]);
            }
        }
        due("change(0, 2, 0)", x.change(0, 2, 0), -2);
        due("change(0, -1, 0)", x.change(0, -1, 0), -2);
        due("change(0, 0, 3)", x.change(0, 0, 3), -2);
        due("change(0, 0, -1)", x.change(0, 0, -1), -2);
        due("change(1, 0, 0)", x.change(1, 0, 0), -2);
        due("change(4, 0, 0)", x.change(4, 0, 0), -2);
        due("change(-1, 0, 0)", x.change(-1, 0, 0), -2);
        due("read(0, 0, 0)", x.read(0, 0, 0), -2);
        due("read(0, 0, 1)", x.read(0, 0, 1), -1);
        due("read(0, 1, 2)", x.read(0, 1, 2), 2);
        due("read(0, 0, 3)", x.read(0, 0, 3), 1);
        due("read(0, 0, 4)", x.read(0, 0, 4), -2);
        due("read(0, 2, 2)", x.read(0, 2, 2), -2);
        due("read(0, -1, 2)", x.read(0, -1, 2), -2);
        due("read(4, 0, 3)", x.read(4, 0, 3), -2);
        due("read(-1, 0, 3)", x.read(-1, 0, 3), -2);
        due("read(3, 1, 3)", x.read(3, 1, 3), 2);
        // One slot for one change; two changes at once need two free slots.
        x = swept("seg a at 0 10 to 60 10;seg b at 1 20 to 60 20;seg c at 2 5 to 3 5;weighs 9-number;slots 3;", 3);
        due("two single changes", x.node(0, 4), 2);
        x.sweep();
        due("a third", x.node(0, 4), 3);
        due("change(0, 2, 2) to none", x.change(0, 2, 2), -1);
        x.cut(1);
        due("no room: copied", x.copies(0), 1);
        x = swept("seg a at 0 10 to 60 10;seg b at 1 20 to 60 20;seg c at 2 30 to 60 40;seg d at 2 1 to 60 1;"
                + "weighs (number=0)*9+number;slots 2;", 3);
        due("one slot free, two changes", x.copies(0), 1);
        due("nothing written for the copy", x.node(0, 4), 1);
    }

    private static void promise18and19() {
        about = "promises 18, 19";
        StampMap x = swept(THREE, 2);
        due("shape(2)", x.shape(2), 2);
        due("lies(2)", x.lies(2), 1);
        due("row(3)", x.row(3), -1);
        due("about(12)", x.about(12), 0);
        due("row(2)", x.row(2), 3);
        due("lies(0)", x.lies(0), 2);
        due("lies(1)", x.lies(1), 0);
        due("lies(2)", x.lies(2), 1);
        due("lies(3)", x.lies(3), -2);
        due("shape(-1)", x.shape(-1), -1);
        due("lies(0)", x.lies(0), -2);
        due("shape(0)", x.shape(0), 0);
        due("about(12)", x.about(12), 0);
        due("row(1)", x.row(1), 1);
        // Of like weights the least number is the root; what is heaviest may stand anywhere.
        x = swept(EIGHT + "weighs 1;", 1);
        due("shape(1)", x.shape(1), 8);
        for (int i = 0; i < 8; i++) {
            due("lies(" + i + ")", x.lies(i), i);
        }
        x = swept(EIGHT + "weighs number%4;", 1);
        due("shape(1)", x.shape(1), 5);
        int[] order = {3, 2, 1, 0, 7, 6, 5, 4};
        for (int i = 0; i < 8; i++) {
            due("lies(" + i + ")", x.lies(i), order[i]);
        }
    }

    private static void promise20to23() {
        about = "promises 20, 21, 22, 23";
        StampMap x = swept(THREE, 2);
        due("below(7, 12)", x.below(7, 12), 0);
        due("above(7, 12)", x.above(7, 12), 1);
        due("below(7, 2)", x.below(7, 2), -1);
        due("above(7, 2)", x.above(7, 2), 2);
        due("below(7, 10)", x.below(7, 10), 0);
        due("above(7, 10)", x.above(7, 10), 1);
        due("above(7, 40)", x.above(7, 40), -1);
        due("on(7, 10)", x.on(7, 10), 1);
        due("on(7, 11)", x.on(7, 11), 0);
        due("on(7, 0)", x.on(7, 0), 0);
        due("on(9, 24)", x.on(9, 24), 1);
        // The version of a place: ahead of 5 only a is in.
        due("below(4, 25)", x.below(4, 25), 0);
        due("below(5, 25)", x.below(5, 25), 1);
        due("depth(7, 25)", x.depth(7, 25), 2);
        due("lies(1)", x.lies(1), 1);
        due("depth(7, 10)", x.depth(7, 10), 2);
        due("lies(0)", x.lies(0), 0);
        due("depth(7, 9)", x.depth(7, 9), 2);
        due("lies(1)", x.lies(1), 2);
        due("depth(4, 9)", x.depth(4, 9), 1);
        int[][] wrongs = {{-1, 5}, {61, 5}, {7, -10}, {7, 100}, {10, 5}, {60, 5}};
        for (int[] p : wrongs) {
            due("below", x.below(p[0], p[1]), -2);
            due("above", x.above(p[0], p[1]), -2);
            due("on", x.on(p[0], p[1]), -2);
            x.row(2);
            due("depth", x.depth(p[0], p[1]), -2);
            due("about(12) behind it", x.about(12), 0);
        }
        due("below(9, -9)", x.below(9, -9), -1);
        due("below(9, 99)", x.below(9, 99), 1);
        x.sweep();
        x.sweep();
        x.sweep();
        due("below(60, 99) when all is swept", x.below(60, 99), -1);
        due("depth(60, 99)", x.depth(60, 99), 0);
        due("below(7, 25)", x.below(7, 25), 1);
        // Two that begin at one point: the steeper one is above; a cut counts from its place on.
        x = swept("seg a at 0 5 to 10 15;seg b at 0 5 to 10 5;", 1);
        due("below(0, 5)", x.below(0, 5), 0);
        due("above(0, 4)", x.above(0, 4), 1);
        x.cut(0);
        due("below(0, 5) cut", x.below(0, 5), 1);
        due("below(9, 30) cut", x.below(9, 30), 1);
        x.raise(0);
        due("below(9, 30) raised", x.below(9, 30), 0);
    }

    private static void promise24() {
        about = "promise 24";
        StampMap x = swept("seg a at 0 10 to 7 13;seg b at 0 30 to 6 20;", 1);
        due("gap(2, 12, 0)", x.gap(2, 12, 0), 8);
        due("gap(2, 12, 1)", x.gap(2, 12, 1), 7);
        due("gap(2, 12, 2)", x.gap(2, 12, 2), 44);
        due("gap(2, 12, 3)", x.gap(2, 12, 3), 3);
        due("gap(0, 10, 0) on it", x.gap(0, 10, 0), 0);
        due("gap(0, 10, 1) on it", x.gap(0, 10, 1), 1);
        due("gap(3, 25, 0) on b", x.gap(3, 25, 0), 0);
        due("gap(3, 25, 2) none", x.gap(3, 25, 2), -1);
        due("gap(3, 25, 3) none", x.gap(3, 25, 3), -1);
        due("gap(3, 5, 0) none", x.gap(3, 5, 0), -1);
        due("gap(3, 5, 1) none", x.gap(3, 5, 1), -1);
        due("gap(3, -9, 2)", x.gap(3, -9, 2), 142);
        due("gap(3, -9, 3)", x.gap(3, -9, 3), 7);
        due("gap(2, 12, 4)", x.gap(2, 12, 4), -1);
        due("gap(2, 12, -1)", x.gap(2, 12, -1), -1);
        due("gap(6, 12, 0) not swept", x.gap(6, 12, 0), -1);
        due("gap(61, 12, 0)", x.gap(61, 12, 0), -1);
        due("gap(2, 100, 0)", x.gap(2, 100, 0), -1);
    }

    private static void promise25and26() {
        about = "promises 25, 26";
        StampMap x = swept(THREE, 2);
        due("crossed(7, -9)", x.crossed(7, -9), 3);
        due("crossed(7, 10)", x.crossed(7, 10), 1);
        due("crossed(7, 9)", x.crossed(7, 9), 2);
        due("crossed(7, 99)", x.crossed(7, 99), 0);
        due("crossed(2, 0)", x.crossed(2, 0), 1);
        due("crossed(10, 0)", x.crossed(10, 0), -2);
        due("crossed(7, 100)", x.crossed(7, 100), -2);
        due("same(7, 10, 2, 99)", x.same(7, 10, 2, 99), 1);
        due("same(7, 10, 2, 9)", x.same(7, 10, 2, 9), 0);
        due("same(2, 9, 3, 1)", x.same(2, 9, 3, 1), 1);
        due("same(2, 9, 10, 1)", x.same(2, 9, 10, 1), -2);
        due("same(2, 100, 3, 1)", x.same(2, 100, 3, 1), -2);
        due("same(-1, 0, 3, 1)", x.same(-1, 0, 3, 1), -2);
    }

    private static void promise27and28() {
        about = "promises 27, 28";
        StampMap x = swept(THREE, 3);
        due("unlike(0, 2)", x.unlike(0, 2), 3);
        due("unlike(2, 3)", x.unlike(2, 3), 1);
        due("unlike(2, 2)", x.unlike(2, 2), 0);
        due("unlike(4, 2)", x.unlike(4, 2), -1);
        due("unlike(2, -1)", x.unlike(2, -1), -1);
        due("shared(1, 2)", x.shared(1, 2), 1);
        due("shared(2, 3)", x.shared(2, 3), 1);
        due("shared(1, 3)", x.shared(1, 3), 0);
        due("shared(3, 3)", x.shared(3, 3), 2);
        due("shared(0, 0)", x.shared(0, 0), 0);
        due("shared(4, 3)", x.shared(4, 3), -1);
        due("shared(3, -1)", x.shared(3, -1), -1);
    }

    private static void promise29to35() {
        about = "promises 29 to 35";
        StampMap x = told(EIGHT + "weighs 9-number;slots 1;");
        due("dearest() without acts", x.dearest(), -1);
        due("busiest() without copies", x.busiest(), 0);
        due("law(1) without acts", x.law(1), 0);
        x.sweep();
        due("version(1, 4)", x.version(1, 4), 8);
        for (int i = 0; i < 3; i++) {
            x.cut(7);
            x.raise(7);
        }
        // The node of g takes one change, is copied for the next, and so all above it.
        due("written()", x.written(), 6);
        due("copies(-1)", x.copies(-1), 4);
        due("copies(6)", x.copies(6), 3);
        due("copies(5)", x.copies(5), 1);
        due("copies(0)", x.copies(0), 0);
        due("copies(8)", x.copies(8), -2);
        due("copies(-2)", x.copies(-2), -2);
        due("busiest()", x.busiest(), 6);
        due("dearest()", x.dearest(), 1);
        due("paid() with one slot", x.paid(), 6);
        due("law(1)", x.law(1), 4);
        due("law(2)", x.law(2), 2);
        due("law(5)", x.law(5), 1);
        due("law(6)", x.law(6), 0);
        due("law(0)", x.law(0), -1);
        due("law(7)", x.law(7), -1);
        due("credit()", x.credit(), 2);
        due("about(5) behind law", x.about(5), 1);
        x = swept(EIGHT + "weighs 9-number;slots 6;", 1);
        for (int i = 0; i < 3; i++) {
            x.cut(7);
            x.raise(7);
        }
        due("written() with six slots", x.written(), 6);
        due("credit() with six slots", x.credit(), 6);
        due("paid() without copies", x.paid(), 6);
        x.cut(7);
        due("paid() with a copy", x.paid(), 2);
        due("credit() with a copy", x.credit(), 1);
        due("written() with a copy", x.written(), 7);
        x.undo();
        due("dearest()", x.dearest(), 1);
        x = swept("seg a at 0 0 to 10 0;seg b at 10 0 to 20 0;", 3);
        due("dearest(), of like ones the first", x.dearest(), 1);
        due("paid() of nothing", x.paid(), 0);
        // The way down from 9 pays, never below 0.
        x = swept("seg a at 0 10 to 60 10;seg b at 1 20 to 60 20;seg c at 1 5 to 60 5;"
                + "weighs 9-number;slots 2;", 2);
        x.cut(1);
        due("paid()", x.paid(), 1);
        due("busiest() of no segments", new StampMap().busiest(), -1);
    }

    private static void promise36to38() {
        about = "promises 36, 37, 38";
        StampMap x = told(THREE);
        due("widest()", x.widest(), 0);
        due("highest()", x.highest(), 0);
        x.sweep();
        due("widest()", x.widest(), 1);
        x.sweep();
        x.sweep();
        due("widest()", x.widest(), 2);
        due("highest()", x.highest(), 2);
        x.undo();
        x.cut(0);
        // c, b remain: b is the root, c its left child.
        due("highest(), of like ones the first", x.highest(), 2);
        due("widest(), of like ones the first", x.widest(), 2);
        due("stays(0)", x.stays(0), 2);
        due("stays(1)", x.stays(1), 2);
        x.raise(0);
        due("stays(0)", x.stays(0), 3);
        due("stays(1)", x.stays(1), 3);
        due("stays(3)", x.stays(3), -1);
        due("stays(-1)", x.stays(-1), -1);
    }

    private static void promise39() {
        about = "promise 39";
        StampMap x = swept(THREE, 2);
        due("sight(0, 0)", x.sight(0, 0), 2);
        due("sight(0, 1)", x.sight(0, 1), 4);
        due("sight(1, 0)", x.sight(1, 0), 0);
        due("sight(2, 0)", x.sight(2, 0), 1);
        x.cut(0);
        due("sight(1, 1)", x.sight(1, 1), 5);
        due("sight(2, 0)", x.sight(2, 0), 3);
        due("sight(0, 2)", x.sight(0, 2), -1);
        due("sight(0, -1)", x.sight(0, -1), -1);
        due("sight(3, 0)", x.sight(3, 0), -1);
        due("sight(-1, 0)", x.sight(-1, 0), -1);
    }

    private static void promise40() {
        about = "promise 40";
        StampMap x = told(THREE);
        due("trapezes()", x.trapezes(), 0);
        x.sweep();
        due("a alone till 5", x.trapezes(), 1);
        x.sweep();
        due("a below b, b, c", x.trapezes(), 4);
        x.cut(1);
        // b is gone at the place where it came: neither it nor a below it is wider than 0.
        due("a goes on, c", x.trapezes(), 3);
        x.raise(1);
        due("as if not cut", x.trapezes(), 4);
        x.sweep();
        due("till 15", x.trapezes(), 4);
        x.sweep();
        due("till 20", x.trapezes(), 5);
        x.sweep();
        due("all", x.trapezes(), 5);
    }

    private static void promise41and42() {
        about = "promises 41, 42";
        StampMap x = told(THREE);
        due("area(-1) at first", x.area(-1), 0);
        due("area(0) at first", x.area(0), 0);
        due("largest() at first", x.largest(), 0);
        x.sweep();
        due("area(0)", x.area(0), 5 * 51);
        due("area(-1)", x.area(-1), 5 * 10);
        x.sweep();
        // From 5 to 9 c is at 5, 4, 3, 2, 1 and b at 20 .. 24.
        due("area(2)", x.area(2), 5 + 6 + 7 + 8 + 9);
        due("area(1)", x.area(1), 41 + 40 + 39 + 38 + 37);
        due("area(0)", x.area(0), 255 + 10 + 11 + 12 + 13 + 14);
        due("area(-1)", x.area(-1), 50 + 15);
        due("largest()", x.largest(), 0);
        x.sweep();
        x.sweep();
        x.sweep();
        due("area(-1), all swept", x.area(-1), 61 * 61 - x.area(0) - x.area(1) - x.area(2));
        due("area(3)", x.area(3), -2);
        due("area(-2)", x.area(-2), -2);
        x = swept("seg a at 0 0 to 3 1;seg b at 0 60 to 3 60;", 1);
        due("area(0) between fractions", x.area(0), 60 + 59 + 59);
        due("area(1) of the top row", x.area(1), 3);
        due("area(-1)", x.area(-1), 0 + 1 + 1);
        x = swept("seg a at 0 10 to 1 10;seg b at 1 10 to 2 10;seg c at 2 9 to 3 9;", 4);
        due("largest()", x.largest(), 2);
        x = swept("seg a at 0 10 to 1 10;seg b at 1 10 to 2 10;", 3);
        due("largest(), of like ones the first", x.largest(), 0);
        due("largest() without segments", new StampMap().largest(), -1);
    }

    private static void promise43() {
        about = "promise 43";
        StampMap x = told(THREE);
        for (int what = -1; what < 4; what++) {
            due("hidden(" + what + ") of no place", x.hidden(what), -1);
        }
        x.sweep();
        due("hidden(0)", x.hidden(0), 0);
        due("hidden(2)", x.hidden(2), 1);
        x.sweep();
        due("hidden(0)", x.hidden(0), 5);
        due("hidden(1)", x.hidden(1), 0);
        due("hidden(2)", x.hidden(2), 3);
        due("hidden(3)", x.hidden(3), -1);
        due("hidden(-1)", x.hidden(-1), -1);
        x = swept("seg a at 3 0 to 13 10;seg b at 3 60 to 13 60;", 1);
        due("hidden(0): at 3 a is not farther up", x.hidden(0), 4);
        due("hidden(2)", x.hidden(2), 2);
        x = told("seg a at 3 0 to 13 10;");
        due("hidden(0) of nothing above", x.hidden(0), 0);
        due("hidden(2) of nothing above", x.hidden(2), 0);
    }

    private static void promise44and45() {
        about = "promises 44, 45";
        StampMap x = told(THREE);
        due("events()", x.events(), 5);
        int[] places = {0, 5, 10, 15, 20};
        for (int place : places) {
            due("next()", x.next(), place);
            x.sweep();
        }
        due("next() behind all", x.next(), -1);
        due("events()", x.events(), 5);
        x.undo();
        due("next() undone", x.next(), 20);
        due("events() of nothing", new StampMap().events(), 0);
        due("next() of nothing", new StampMap().next(), -1);
        x = told("seg a at 59 0 to 60 0;");
        due("next()", x.next(), 59);
        x.sweep();
        due("next()", x.next(), 60);
    }

    private static void promise46() {
        about = "promise 46";
        StampMap x = swept(THREE, 2);
        due("lies(0)", x.lies(0), -2);
        x.row(2);
        due("lies(-1)", x.lies(-1), -2);
        due("lies(3)", x.lies(3), -2);
        due("lies(2)", x.lies(2), 1);
        x.undo();
        x.below(3, 3);
        x.version(1, 3);
        x.image(0);
        x.back(0);
        x.trapezes();
        x.law(2);
        x.area(0);
        due("lies(2) still", x.lies(2), 1);
        due("about(12)", x.about(12), 3);
    }

    private static void promise47and48() {
        about = "promises 47, 48";
        StampMap x = told(THREE);
        due("seen(3)", x.seen(3, true), -1);
        due("seen(-2)", x.seen(-2, true), -1);
        for (int i = 0; i < 30; i++) {
            due("seen", x.seen(i % 4 - 1, i % 2 == 0), i);
        }
        due("the 31st", x.seen(0, true), -1);
        due("about(8)", x.about(8), 30);
        due("untell(30)", x.untell(30), false);
        due("untell(-1)", x.untell(-1), false);
        due("untell(29)", x.untell(29), true);
        due("untell(29) again", x.untell(29), false);
        due("the 31st, one untold", x.seen(0, true), -1);
    }

    private static void promise49() {
        about = "promise 49";
        StampMap x = new StampMap();
        due("later(0)", x.later(0), 0);
        due("later(-1)", x.later(-1), -1);
        due("later(1001)", x.later(1001), -1);
        due("later(max)", x.later(Integer.MAX_VALUE), -1);
        for (int i = 1; i < 100; i++) {
            due("later(1000)", x.later(1000), 1000 * i);
        }
        due("later(999)", x.later(999), 99999);
        due("later(2)", x.later(2), -1);
        due("about(9)", x.about(9), 99999);
        due("later(1)", x.later(1), 100000);
        due("later(1)", x.later(1), -1);
        due("later(0)", x.later(0), 100000);
    }

    private static void promise50to52() {
        about = "promises 50, 51, 52";
        StampMap x = told(THREE);
        due("fits(12, 0)", x.fits(12, 0), 61);
        due("sure(12, 0, 0)", x.sure(12, 0, 0), 0);
        due("sure(12, 1, 0)", x.sure(12, 1, 0), 60);
        // At 12 up a is the region from 0 to 19; whether it is leaves 20 or 41.
        due("ask(12, 0, 0)", x.ask(12, 0, 0), 0);
        due("ask(12, 1, 0)", x.ask(12, 1, 0), 41);
        x.seen(0, true);
        due("fits(12, 0)", x.fits(12, 0), 20);
        due("sure(12, 1, 0)", x.sure(12, 1, 0), 19);
        due("fits(25, 0)", x.fits(25, 0), 5 + 4 + 5);
        due("sure(25, 0, 0)", x.sure(25, 0, 0), 0);
        due("ask(25, 0, 0), of like ones the first", x.ask(25, 0, 0), 0);
        due("ask(25, 1, 0)", x.ask(25, 1, 0), 14);
        due("fits(9, 0): never", x.fits(9, 0), 0);
        due("sure(9, 0, 0)", x.sure(9, 0, 0), -1);
        due("sure(9, 1, 0)", x.sure(9, 1, 0), -1);
        due("ask(9, 0, 0)", x.ask(9, 0, 0), -1);
        due("ask(9, 1, 0)", x.ask(9, 1, 0), -1);
        x.untell(0);
        x.seen(1, false);
        due("fits(25, 0)", x.fits(25, 0), 61 - 6);
        x.seen(-1, false);
        due("fits(25, 0)", x.fits(25, 0), 14);
        due("ask(25, 0, 0)", x.ask(25, 0, 0), 0);
        x.seen(-1, true);
        due("fits(25, 0), against itself", x.fits(25, 0), 0);
        int[] heights = {-10, 100};
        for (int up : heights) {
            due("fits", x.fits(up, 0), -1);
            due("sure", x.sure(up, 0, 0), -1);
            due("ask", x.ask(up, 0, 0), -1);
        }
        x = told(THREE);
        due("fits(-9, 0)", x.fits(-9, 0), 61);
        due("fits(99, 0)", x.fits(99, 0), 61);
        due("sure(12, 2, 0)", x.sure(12, 2, 0), -1);
        due("sure(12, -1, 0)", x.sure(12, -1, 0), -1);
        due("ask(12, 2, 0)", x.ask(12, 2, 0), -1);
        due("ask(12, -1, 0)", x.ask(12, -1, 0), -1);
        // Sweeps and cuts are nothing to it.
        x.sweep();
        x.cut(0);
        due("ask(12, 1, 0)", x.ask(12, 1, 0), 41);
        due("ask without segments", new StampMap().ask(5, 0, 0), -1);
        due("ask without segments", new StampMap().ask(5, 1, 0), -1);
    }

    private static void promise50times() {
        about = "promise 50, two times";
        StampMap x = told(THREE);
        x.later(10);
        x.seen(0, true);
        x.later(10);
        x.seen(0, false);
        x.later(10);
        x.untell(0);
        x.later(10);
        x.seen(1, true);
        x.untell(2);
        due("fits(12, -5)", x.fits(12, -5), 61);
        due("fits(12, 9)", x.fits(12, 9), 61);
        due("fits(12, 10)", x.fits(12, 10), 20);
        due("fits(12, 19)", x.fits(12, 19), 20);
        due("fits(12, 20)", x.fits(12, 20), 0);
        due("fits(12, 29)", x.fits(12, 29), 0);
        due("fits(12, 30)", x.fits(12, 30), 41);
        due("fits(12, 40)", x.fits(12, 40), 41);
        due("fits(12, 99999)", x.fits(12, 99999), 41);
        due("sure(12, 0, 30)", x.sure(12, 0, 30), 20);
        due("sure(12, 0, 10)", x.sure(12, 0, 10), 0);
    }

    private static void promise53and54() {
        about = "promises 53, 54";
        StampMap x = swept(THREE, 2);
        due("back(0) of nothing", x.back(0), -1);
        due("about(6)", x.about(6), 2);
        due("image(0)", x.image(0), 2);
        due("image(3)", x.image(3), -1);
        due("image(-1)", x.image(-1), -1);
        due("back(3)", x.back(3), -1);
        due("back(-1)", x.back(-1), -1);
        due("about(6) behind image", x.about(6), 2);
        x.cut(1);
        x.sweep();
        x.cut(0);
        due("image(2)", x.image(2), 5);
        x.later(3);
        x.seen(0, true);
        x.row(2);
        due("back(0)", x.back(0), 2);
        due("about(4)", x.about(4), 3);
        due("node(0, 4)", x.node(0, 4), 2);
        due("segment(1, 5)", x.segment(1, 5), 0);
        due("segment(1, 6)", x.segment(1, 6), 2);
        due("next()", x.next(), 10);
        due("undo()", x.undo(), false);
        due("redo()", x.redo(), false);
        due("about(8)", x.about(8), 1);
        due("about(9)", x.about(9), 3);
        due("about(12)", x.about(12), 3);
        due("sweep()", x.sweep(), 2);
        due("about(6)", x.about(6), 1);
        due("undo()", x.undo(), true);
        due("undo()", x.undo(), false);
        due("back(2)", x.back(2), 5);
        due("segment(1, 5)", x.segment(1, 5), 1);
        due("segment(0, 5)", x.segment(0, 5), 1);
        due("redo()", x.redo(), false);
        due("raise(0)", x.raise(0), 1);
        due("back(0) again", x.back(0), 2);
        due("back(1)", x.back(1), -1);
        due("dearest() behind back", x.dearest(), 2);
    }

    private static void promise55() {
        about = "promise 55";
        StampMap x = swept(THREE, 3);
        x.undo();
        x.seen(0, true);
        x.seen(1, true);
        x.untell(0);
        x.later(7);
        x.row(2);
        x.feed(1, 2, 3, 4, 5);
        int[] answers = {3, 2, 5, 7, 3, 2, 2, 1, 2, 7, 20, 2, 3};
        for (int what = 0; what <= 12; what++) {
            due("about(" + what + ")", x.about(what), answers[what]);
        }
        due("about(13)", x.about(13), -1);
        due("about(-1)", x.about(-1), -1);
    }
}
