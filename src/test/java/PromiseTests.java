/** Every promise by itself: ordinary inputs, the edges that the document names, wrong inputs. */
public final class PromiseTests {
    private static final int BAD = -1, STATE = -2, FULL = -3, NONE = -9, NO = -1000000;
    private static final int LEAST = Integer.MIN_VALUE, GREATEST = Integer.MAX_VALUE;
    private static int wrong = 0;

    public static void main(String[] args) {
        promise1NewObject();
        promise2Type();
        promise3Clear();
        promise4SquareReads();
        promise4SquareFaults();
        promise4SquareTellsAnew();
        promise5Bar();
        promise6Person();
        promise7Rain();
        promise8Paint();
        promise9Holds();
        promise10Undo();
        promise11Held();
        promise12Rust();
        promise13Saw();
        promise14Hide();
        promise15Seen();
        promise16Fits();
        promise17Sure();
        promise18Odds();
        promise19Claim();
        promise20Saves();
        promise21Scrape();
        promise22Swaps();
        promise23Rate();
        promise24Keep();
        promise25Back();
        promise26Count();
        promise27Trace();
        if (wrong != 0) {
            System.out.println(wrong + " answers are not as due");
            System.exit(1);
        }
    }

    private static void due(String call, long got, long want) {
        if (got != want) {
            wrong++;
            System.out.println(call + " answered " + got + ", due is " + want);
        }
    }

    private static void type(LeanedBars x, String text) {
        for (int i = 0; i < text.length(); i++) {
            x.type(text.charAt(i), 1);
        }
    }

    private static LeanedBars told(String text) {
        LeanedBars x = new LeanedBars();
        type(x, text);
        int items = x.square();
        if (items < 0) {
            wrong++;
            System.out.println("told: fault " + (-10 - items) + " in " + text);
        }
        return x;
    }

    private static void dueSquare(String text, long want) {
        LeanedBars x = new LeanedBars();
        type(x, text);
        due("square() of \"" + text + "\"", x.square(), want);
        due("bytes behind square() of \"" + text + "\"", x.count(5), want < 0 ? text.length() : 0);
    }

    private static String times(int n, String text) {
        StringBuilder all = new StringBuilder();
        for (int i = 0; i < n; i++) {
            all.append(text);
        }
        return all.toString();
    }

    private static void promise1NewObject() {
        LeanedBars x = new LeanedBars();
        for (int what = 0; what <= 5; what++) {
            due("new: count(" + what + ")", x.count(what), 0);
        }
        due("new: bar(0)", x.bar(0), BAD);
        due("new: person(0)", x.person(0), BAD);
        for (int y = 0; y <= 9; y++) {
            due("new: rain(" + y + ")", x.rain(y), 1);
        }
        due("new: rust(0, 0)", x.rust(0, 0), BAD);
        due("new: paint(0, 0)", x.paint(0, 0), BAD);
        due("new: undo()", x.undo(), STATE);
        due("new: back(0)", x.back(0), STATE);
        due("new: back(1)", x.back(1), STATE);
        due("new: fits()", x.fits(), 1);
        due("new: sure(0)", x.sure(0), BAD);
        due("new: scrape(0)", x.scrape(0), NONE);
        due("new: swaps()", x.swaps(), 0);
        due("new: trace()", x.trace(), 0);
        due("new: square()", x.square(), 0);
        due("BAD", LeanedBars.BAD, BAD);
        due("STATE", LeanedBars.STATE, STATE);
        due("FULL", LeanedBars.FULL, FULL);
        due("NONE", LeanedBars.NONE, NONE);
        due("NO", LeanedBars.NO, NO);
    }

    private static void promise2Type() {
        LeanedBars x = new LeanedBars();
        due("type(.., 0)", x.type(59, 0), BAD);
        due("type(.., 9)", x.type(59, 9), BAD);
        due("type(.., -1)", x.type(59, -1), BAD);
        due("type(.., least)", x.type(59, LEAST), BAD);
        due("type(.., greatest)", x.type(59, GREATEST), BAD);
        due("nothing came", x.count(5), 0);
        // "bar 2;": the highest of the lowest six comes first, what is above them does not come
        due("type of six", x.type(0x7A7A626172203240L - 0x40 + ';', 6), 6);
        due("square() of six", x.square(), 1);
        due("bar(0) of six", x.bar(0), 2);
        due("type of eight", x.type(0x626172203B626172L, 8), 8);
        due("square() of eight", x.square(), -14);
        due("type of a negative", x.type(-1L, 8), 16);
        x.clear();
        type(x, "bar 1;");
        x.type(-1L, 1);
        due("a byte 255 begins none", x.square(), -16);
        x.clear();
        for (int i = 0; i < 37; i++) {
            x.type(0x2020202020202020L, 8);
        }
        due("296 bytes", x.count(5), 296);
        due("type beyond 300", x.type(0, 5), FULL);
        due("type beyond 300, and BAD", x.type(0, 9), BAD);
        due("nothing came beyond 300", x.count(5), 296);
        due("type to just 300", x.type(0x20202020L, 4), 300);
        due("type behind 300", x.type(32, 1), FULL);
        due("still 300", x.count(5), 300);
        due("300 blanks", x.square(), 0);
        due("empty behind 300", x.count(5), 0);
    }

    private static void promise3Clear() {
        LeanedBars x = told("bar 1; person 2;");
        due("clear() of nothing", x.clear(), 0);
        type(x, "bar 3;xyz");
        due("clear()", x.clear(), 9);
        due("clear() again", x.clear(), 0);
        due("count(5)", x.count(5), 0);
        due("what was told stays", x.bar(0), 1);
        type(x, "bar 2;");
        due("told behind clear()", x.square(), 1);
        due("bar(0)", x.bar(0), 2);
    }

    private static void promise4SquareReads() {
        dueSquare("", 0);
        dueSquare("   ", 0);
        dueSquare("bar 1;", 1);
        dueSquare("bar1;", 1);
        dueSquare("  bar   1  ;  ", 1);
        dueSquare("bar 3;person 9;rain 9 3;paint 0 9 5;", 4);
        dueSquare("bar1;person1;rain0 0;paint0 0 1;", 4);
        dueSquare(times(6, "bar 1;"), 6);
        dueSquare(times(3, "person 1;"), 3);
        dueSquare("bar 1;" + times(8, "paint 0 0 1;"), 9);
        dueSquare(times(37, "rain0 0;") + "    ", 37);
        dueSquare(times(6, "bar1;") + "paint 5 9 5;", 7);
        LeanedBars x = told("rain 4 3;rain 5 0;rain 4 2;");
        due("rain told again", x.rain(4), 2);
        due("rain(5)", x.rain(5), 0);
        due("rain(6)", x.rain(6), 1);
    }

    private static void promise4SquareFaults() {
        dueSquare(";", -10);
        dueSquare("  ;", -12);
        dueSquare("bar 1;;", -16);
        dueSquare("bar", -13);
        dueSquare("bar  ", -15);
        dueSquare("bar 1", -15);
        dueSquare("bar 1 ", -16);
        dueSquare("bar;", -13);
        dueSquare("bar 0;", -14);
        dueSquare("bar 4;", -14);
        dueSquare("bar 00;", -14);
        dueSquare("bar 01;", -14);
        dueSquare("bar 1 2;", -16);
        dueSquare("bar 100;", -14);
        dueSquare("bar 257;", -14);
        dueSquare("bar 4294967297;", -14);
        dueSquare("bar " + times(200, "9") + ";", -14);
        dueSquare("bar -1;", -14);
        dueSquare("bar 1 person 1;", -16);
        dueSquare("bars 1;", -10);
        dueSquare("ba 1;", -10);
        dueSquare("car 1;", -10);
        dueSquare("ber 1;", -10);
        dueSquare("bat 1;", -10);
        dueSquare("rerson 1;", -10);
        dueSquare("pain 0 0;", -10);
        dueSquare("paints 0 0 1;", -10);
        dueSquare("Bar 1;", -10);
        dueSquare("barX 1;", -13);
        dueSquare("bar\t1;", -13);
        dueSquare("bar bar;", -14);
        dueSquare("barbar 1;", -10);
        dueSquare("bar 1; 1;", -17);
        dueSquare("1bar;", -10);
        dueSquare("bar 1;#", -16);
        dueSquare("bar 1#", -15);
        dueSquare("bar 1:", -15);
        dueSquare("bar 1 100", -16);
        dueSquare("bar 1 02;", -16);
        dueSquare("bar #;", -14);
        dueSquare("bar person 1;", -14);
        dueSquare("person bar 1;", -17);
        dueSquare("rain bar 1;", -15);
        dueSquare("rain 0 bar 1;", -17);
        dueSquare("bar 1;paint bar 1;", -22);
        dueSquare("bar 1;paint 0 bar 1;", -24);
        dueSquare("bar 1;paint 0 0 bar 1;", -26);
        dueSquare("bar 1;paint 0 0 1 bar 1;", -28);
        dueSquare("person", -16);
        dueSquare("person 0;", -17);
        dueSquare("person 10;", -17);
        dueSquare("person 09;", -17);
        dueSquare("rain", -14);
        dueSquare("rain 10 0;", -15);
        dueSquare("rain 0", -16);
        dueSquare("rain 0;", -16);
        dueSquare("rain 0 4;", -17);
        dueSquare("rain 05;", -15);
        dueSquare("rain 0 1 1;", -19);
        dueSquare("paint", -15);
        dueSquare("paint 0 0 1;", -16);
        dueSquare("paint 0 0 1;bar 1;", -16);
        dueSquare("bar 1;paint 1 0 1;", -22);
        dueSquare("bar 1;paint 0 10 1;", -24);
        dueSquare("bar 1;paint 0 9 0;", -26);
        dueSquare("bar 1;paint 0 9 6;", -26);
        dueSquare("bar 1;paint 0 9 5", -27);
        dueSquare("bar 1;paint 0 9 5 5;", -28);
        dueSquare(times(7, "bar 1;"), -46);
        dueSquare(times(6, "bar 1;") + "bar", -46);
        dueSquare(times(4, "person 1;"), -37);
        dueSquare("bar 1;" + times(9, "paint 0 0 1;"), -112);
        dueSquare(times(37, "rain0 0;") + "rain", -310);
    }

    private static void promise4SquareTellsAnew() {
        LeanedBars x = told("bar 2;bar 3;person 4;person 5;rain 3 0;paint 1 2 3;");
        x.holds(1, 1, 0, 10);
        x.saw(0, 20);
        x.keep(0);
        x.keep(1);
        x.rate(0, 0);
        type(x, "bar 1;bar 2;person 1;rain 3 2;paint 0 0 1;bar");
        due("square() with a fault", x.square(), -55);
        due("fault: bar(0)", x.bar(0), 2);
        due("fault: person(1)", x.person(1), 5);
        due("fault: rain(3)", x.rain(3), 0);
        due("fault: paint(1, 2)", x.paint(1, 2), 2);
        due("fault: paint(0, 0)", x.paint(0, 0), 0);
        due("fault: count(2)", x.count(2), 1);
        due("fault: seen(0)", x.seen(0), 20);
        due("fault: count(3)", x.count(3), 1);
        due("fault: back(1)", x.back(1), 1);
        due("fault: count(5)", x.count(5), 45);
        x.clear();
        type(x, "person 7;bar 1;");
        due("square() told again", x.square(), 2);
        due("again: count(0)", x.count(0), 1);
        due("again: count(1)", x.count(1), 1);
        due("again: count(2)", x.count(2), 0);
        due("again: count(3)", x.count(3), 0);
        due("again: count(4)", x.count(4), 0);
        due("again: count(5)", x.count(5), 0);
        due("again: rain(3)", x.rain(3), 1);
        due("again: person(0)", x.person(0), 7);
        due("again: bar(1)", x.bar(1), BAD);
        due("again: undo()", x.undo(), STATE);
        due("again: back(0)", x.back(0), STATE);
        due("again: back(1)", x.back(1), STATE);
        due("again: seen(0)", x.seen(0), NONE);
        due("again: trace()", x.trace(), 1);
        due("square() of nothing told", x.square(), 0);
        due("nothing told: count(0)", x.count(0), 0);
        due("nothing told: count(1)", x.count(1), 0);
    }

    private static void promise5Bar() {
        LeanedBars x = told("bar 3;bar 1;bar 2;bar 3;bar 1;bar 2;person 9;");
        int[] metals = {3, 1, 2, 3, 1, 2};
        for (int b = 0; b < 6; b++) {
            due("bar(" + b + ")", x.bar(b), metals[b]);
        }
        due("bar(6)", x.bar(6), BAD);
        due("bar(-1)", x.bar(-1), BAD);
        due("bar(least)", x.bar(LEAST), BAD);
        due("bar(greatest)", x.bar(GREATEST), BAD);
    }

    private static void promise6Person() {
        LeanedBars x = told("person 9;person 1;person 5;bar 2;");
        due("person(0)", x.person(0), 9);
        due("person(1)", x.person(1), 1);
        due("person(2)", x.person(2), 5);
        due("person(3)", x.person(3), BAD);
        due("person(-1)", x.person(-1), BAD);
        due("person(least)", x.person(LEAST), BAD);
        due("person(greatest)", x.person(GREATEST), BAD);
        due("person(1) of one", told("person 2;").person(1), BAD);
    }

    private static void promise7Rain() {
        LeanedBars x = told("rain 0 3;rain 9 0;rain 5 2;");
        due("rain(0)", x.rain(0), 3);
        due("rain(1)", x.rain(1), 1);
        due("rain(5)", x.rain(5), 2);
        due("rain(9)", x.rain(9), 0);
        due("rain(10)", x.rain(10), BAD);
        due("rain(-1)", x.rain(-1), BAD);
        due("rain(least)", x.rain(LEAST), BAD);
        due("rain(greatest)", x.rain(GREATEST), BAD);
    }

    private static void promise8Paint() {
        LeanedBars x = told("bar 1;bar 1;paint 0 2 3;paint 0 4 1;paint 0 8 5;paint 1 0 1;");
        int[] first = {0, 0, 2, 1, 2, 0, 0, 0, 2, 1};
        int[] second = {2, 0, 0, 0, 0, 0, 0, 0, 0, 0};
        for (int y = 0; y <= 9; y++) {
            due("paint(0, " + y + ")", x.paint(0, y), first[y]);
            due("paint(1, " + y + ")", x.paint(1, y), second[y]);
        }
        LeanedBars full = told("bar 1;bar 1;" + times(8, "paint 1 0 5;"));
        due("paint(1, 0), eight times", full.paint(1, 0), 2);
        due("paint(1, 4), eight times", full.paint(1, 4), 1);
        due("paint(0, 0), eight of the other", full.paint(0, 0), 0);
        type(full, "bar 1;bar 1;");
        full.square();
        due("paint(1, 0), told anew without", full.paint(1, 0), 0);
        due("paint(1, 4), told anew without", full.paint(1, 4), 0);
        due("paint(2, 0)", x.paint(2, 0), BAD);
        due("paint(-1, 0)", x.paint(-1, 0), BAD);
        due("paint(0, 10)", x.paint(0, 10), BAD);
        due("paint(0, -1)", x.paint(0, -1), BAD);
        due("paint(least, least)", x.paint(LEAST, LEAST), BAD);
        due("paint(0, greatest)", x.paint(0, GREATEST), BAD);
    }

    private static void promise9Holds() {
        LeanedBars x = told("bar 1;bar 2;person 3;person 4;");
        due("holds to 9", x.holds(0, 0, 0, 10), 1);
        due("holds of 9 alone", x.holds(1, 1, 9, 1), 2);
        due("holds p 2", x.holds(2, 0, 0, 1), BAD);
        due("holds p -1", x.holds(-1, 0, 0, 1), BAD);
        due("holds b 2", x.holds(0, 2, 0, 1), BAD);
        due("holds b -1", x.holds(0, -1, 0, 1), BAD);
        due("holds from 10", x.holds(0, 0, 10, 1), BAD);
        due("holds from -1", x.holds(0, 0, -1, 1), BAD);
        due("holds n 0", x.holds(0, 0, 0, 0), BAD);
        due("holds n 11", x.holds(0, 0, 0, 11), BAD);
        due("holds beyond 9", x.holds(0, 0, 1, 10), BAD);
        due("holds 9 and 10", x.holds(0, 0, 9, 2), BAD);
        due("holds greatest", x.holds(0, 0, GREATEST, GREATEST), BAD);
        due("holds n greatest", x.holds(0, 0, 9, GREATEST), BAD);
        due("holds least", x.holds(LEAST, LEAST, LEAST, LEAST), BAD);
        due("still two", x.count(3), 2);
        for (int i = 3; i <= 12; i++) {
            due("holds, the same again", x.holds(0, 0, 2, 1), i);
        }
        due("holds, a thirteenth", x.holds(0, 0, 2, 1), FULL);
        due("holds, a thirteenth and BAD", x.holds(0, 0, 2, 9), BAD);
        due("still twelve", x.count(3), 12);
        due("holds each time", x.rust(0, 9), 10 + 30 + 30);
        due("room behind undo()", x.undo(), 11);
        due("holds, the twelfth anew", x.holds(1, 1, 0, 1), 12);
    }

    private static void promise10Undo() {
        LeanedBars x = told("bar 1;person 3;person 2;");
        due("undo() of none", x.undo(), STATE);
        x.holds(0, 0, 0, 1);
        x.holds(1, 0, 1, 2);
        due("undo()", x.undo(), 1);
        due("the latest went", x.held(0, 0), 0);
        due("rust without it", x.rust(0, 9), 13);
        due("undo() of the last", x.undo(), 0);
        due("undo() of none left", x.undo(), STATE);
        due("count(3)", x.count(3), 0);
    }

    private static void promise11Held() {
        LeanedBars x = told("bar 1;bar 1;bar 1;person 3;person 2;person 1;");
        due("held of none", x.held(0, 0), BAD);
        x.holds(2, 1, 4, 5);
        x.holds(1, 2, 3, 6);
        int[] first = {2, 1, 4, 5};
        int[] second = {1, 2, 3, 6};
        for (int what = 0; what <= 3; what++) {
            due("held(0, " + what + ")", x.held(0, what), first[what]);
            due("held(1, " + what + ")", x.held(1, what), second[what]);
        }
        due("held(2, 0)", x.held(2, 0), BAD);
        due("held(-1, 0)", x.held(-1, 0), BAD);
        due("held(0, 4)", x.held(0, 4), BAD);
        due("held(0, -1)", x.held(0, -1), BAD);
        due("held(greatest, least)", x.held(GREATEST, LEAST), BAD);
        x.undo();
        due("held of an undone one", x.held(1, 0), BAD);
    }

    private static void promise12Rust() {
        LeanedBars x = told("bar 2;bar 3;person 5;person 7;rain 1 3;rain 2 0;paint 0 3 3;paint 0 7 1;");
        int[] bare = {2, 8, 8, 8, 8, 8, 10, 10, 12, 14};
        for (int y = 0; y <= 9; y++) {
            due("rust(0, " + y + ") bare", x.rust(0, y), bare[y]);
        }
        due("rust(1, 9) bare", x.rust(1, 9), 3 * 11);
        x.holds(0, 0, 2, 4);
        x.holds(1, 0, 3, 1);
        x.holds(0, 0, 5, 5);
        // the first in 2, 4, 5; the second in none, as 3 is WET; the third in 5, 6, 8, 9
        int[] added = {0, 0, 5, 5, 10, 20, 25, 25, 30, 35};
        for (int y = 0; y <= 9; y++) {
            due("rust(0, " + y + ") held", x.rust(0, y), bare[y] + added[y]);
        }
        due("rust(1, 9) not held", x.rust(1, 9), 33);
        due("rust(2, 0)", x.rust(2, 0), BAD);
        due("rust(-1, 0)", x.rust(-1, 0), BAD);
        due("rust(0, 10)", x.rust(0, 10), BAD);
        due("rust(0, -1)", x.rust(0, -1), BAD);
        due("rust(least, greatest)", x.rust(LEAST, GREATEST), BAD);
    }

    private static void promise13Saw() {
        LeanedBars x = told("bar 1;bar 1;");
        due("saw", x.saw(0, 0), NONE);
        due("saw again", x.saw(0, 999), 0);
        due("saw the same again", x.saw(0, 999), 999);
        due("saw rust -1", x.saw(0, -1), BAD);
        due("saw rust -9", x.saw(0, -9), BAD);
        due("saw rust 1000", x.saw(0, 1000), BAD);
        due("saw b 2", x.saw(2, 5), BAD);
        due("saw b -1", x.saw(-1, 5), BAD);
        due("saw least", x.saw(LEAST, LEAST), BAD);
        due("saw greatest", x.saw(GREATEST, GREATEST), BAD);
        due("nothing changed", x.seen(0), 999);
        due("the other was not seen", x.saw(1, 4), NONE);
        due("count(4)", x.count(4), 2);
    }

    private static void promise14Hide() {
        LeanedBars x = told("bar 1;bar 1;");
        due("hide of none", x.hide(0), STATE);
        x.saw(0, 0);
        x.saw(1, 77);
        due("hide(0)", x.hide(0), 0);
        due("hide(0) again", x.hide(0), STATE);
        due("hide(2)", x.hide(2), BAD);
        due("hide(-1)", x.hide(-1), BAD);
        due("hide(least)", x.hide(LEAST), BAD);
        due("hide(greatest)", x.hide(GREATEST), BAD);
        due("the other stays", x.seen(1), 77);
        due("hide(1)", x.hide(1), 77);
        due("count(4)", x.count(4), 0);
        due("saw behind hide()", x.saw(1, 3), NONE);
    }

    private static void promise15Seen() {
        LeanedBars x = told("bar 1;bar 1;");
        due("seen of none", x.seen(0), NONE);
        x.saw(0, 0);
        due("seen(0)", x.seen(0), 0);
        due("seen(1)", x.seen(1), NONE);
        x.saw(0, 9);
        due("seen(0) later", x.seen(0), 9);
        x.hide(0);
        due("seen(0) hidden", x.seen(0), NONE);
        due("seen(2)", x.seen(2), BAD);
        due("seen(-1)", x.seen(-1), BAD);
        due("seen(least)", x.seen(LEAST), BAD);
        due("seen(greatest)", x.seen(GREATEST), BAD);
    }

    private static void promise16Fits() {
        due("fits, nobody", told("bar 1;").fits(), 1);
        due("fits, no bars", told("person 1;person 2;person 3;").fits(), 1);
        due("fits, the most", told(times(6, "bar 1;") + times(3, "person 9;")).fits(), 61 * 61 * 61);
        LeanedBars x = told("bar 1;person 2;person 3;paint 0 0 1;");
        // 9 of weather; held w WINTERS leaves GRIP times w - 1, as YEAR 0 is WET
        due("fits, none seen", x.fits(), 121);
        x.saw(0, 9);
        due("fits, held none or in the WET YEAR alone", x.fits(), 4);
        x.saw(0, 8);
        due("fits, less than weather", x.fits(), 0);
        x.saw(0, 10);
        due("fits, by no grip", x.fits(), 0);
        x.saw(0, 15);
        // 6: thrice 2 or twice 3; with the other none, or in the WET YEAR alone
        due("fits, either", x.fits(), 4);
        x.saw(0, 9 + 45);
        due("fits, both to the end", x.fits(), 1);
        x.saw(0, 999);
        due("fits, too much", x.fits(), 0);
        x.hide(0);
        x.holds(0, 0, 0, 10);
        due("fits does not ask HOLDS", x.fits(), 121);
        LeanedBars nobody = told("bar 2;");
        nobody.saw(0, 20);
        due("fits, nobody, weather", nobody.fits(), 1);
        nobody.saw(0, 21);
        due("fits, nobody, more", nobody.fits(), 0);
    }

    private static void promise17Sure() {
        LeanedBars x = told("bar 1;bar 1;person 7;person 2;");
        due("sure, none seen", x.sure(0), -5);
        x.saw(1, 10 + 49);
        // 49: seven times 7, or less of it and an even rest: only 5 times 7 and 7 times 2
        due("sure, the first", x.sure(0), 1);
        due("sure, the second", x.sure(1), -5);
        x.saw(0, 10);
        due("sure, the second may hold none", x.sure(1), -5);
        x.saw(0, 10 + 70 + 20);
        x.saw(1, 10);
        due("sure of bar 0, the first", x.sure(0), 0);
        due("sure of bar 0, the second", x.sure(1), 0);
        x.saw(0, 10 + 1);
        due("sure, no WAYS of bar 0", x.sure(1), NONE);
        x.saw(0, 10 + 2 + 7);
        x.hide(1);
        due("sure of bar 0, the other free", x.sure(0), 0);
        x.saw(1, 10);
        x.saw(0, 10);
        due("sure of none", x.sure(0), -4);
        due("sure of none, the other", x.sure(1), -4);
        x.saw(1, 11);
        due("sure, no WAYS", x.sure(0), NONE);
        due("sure(2)", x.sure(2), BAD);
        due("sure(-1)", x.sure(-1), BAD);
        due("sure(least)", x.sure(LEAST), BAD);
        due("sure(greatest)", x.sure(GREATEST), BAD);
        due("sure, no bars", told("person 1;").sure(0), -4);
    }

    private static void promise18Odds() {
        LeanedBars x = told("bar 1;bar 1;person 7;person 2;");
        due("odds upper", x.odds(0, 0, 0), 10);
        due("odds lower", x.odds(0, 0, 1), 21);
        due("odds upper of none", x.odds(0, -4, 0), 1);
        due("odds lower of none", x.odds(0, -4, 1), 21);
        x.saw(0, 10 + 14);
        // 14: twice 7; seven times 2: where the first holds 0, the second has 11; and so turned about
        due("odds seen upper", x.odds(0, 0, 0), 1);
        due("odds seen lower", x.odds(0, 0, 1), 2);
        due("odds seen none, upper", x.odds(0, -4, 0), 1);
        due("odds seen none, lower", x.odds(0, -4, 1), 22);
        x.saw(0, 10 + 70 + 20);
        due("odds of all, upper", x.odds(0, 0, 0), 1);
        due("odds of all, lower", x.odds(0, 0, 1), 1);
        due("odds of no way, upper", x.odds(0, 1, 0), 0);
        due("odds of no way, lower", x.odds(0, 1, 1), 1);
        x.saw(0, 11);
        due("odds without WAYS, upper", x.odds(0, 0, 0), 0);
        due("odds without WAYS, lower", x.odds(0, 0, 1), 1);
        due("odds none without WAYS, lower", x.odds(0, -4, 1), 1);
        due("odds p 2", x.odds(2, 0, 0), BAD);
        due("odds p -1", x.odds(-1, 0, 0), BAD);
        due("odds b 2", x.odds(0, 2, 0), BAD);
        due("odds b -1", x.odds(0, -1, 0), BAD);
        due("odds b -3", x.odds(0, -3, 0), BAD);
        due("odds b -5", x.odds(0, -5, 0), BAD);
        due("odds what 2", x.odds(0, 0, 2), BAD);
        due("odds what -1", x.odds(0, -4, -1), BAD);
        due("odds least", x.odds(LEAST, LEAST, LEAST), BAD);
        due("odds greatest", x.odds(GREATEST, GREATEST, GREATEST), BAD);
        due("odds, no bars", told("person 1;").odds(0, -4, 0), 1);
        due("odds of none, nobody", told("bar 1;").odds(0, -4, 0), BAD);
    }

    private static void promise19Claim() {
        LeanedBars x = told("bar 1;bar 2;person 2;person 5;paint 0 1 2;");
        due("claim, none seen", x.claim(0, 0, 10), 1);
        x.saw(0, 8 + 10);
        // 10 = 2 times 5 DRY years (6 WINTERS), or 5 times 2 (3 WINTERS)
        due("claim(0, 0, 6)", x.claim(0, 0, 6), 1);
        due("claim(0, 0, 5)", x.claim(0, 0, 5), 0);
        due("claim(0, 0, 7)", x.claim(0, 0, 7), 0);
        due("claim(1, 0, 3)", x.claim(1, 0, 3), 1);
        due("claim(1, 0, 2)", x.claim(1, 0, 2), 0);
        due("claim of the other bar", x.claim(1, 1, 10), 1);
        x.saw(1, 20);
        due("claim of the other bar, seen", x.claim(1, 1, 10), 0);
        x.saw(0, 8);
        due("claim, all held none", x.claim(0, 0, 1), 0);
        x.saw(0, 9);
        due("claim, no WAYS", x.claim(0, 0, 1), 0);
        due("claim w 0", x.claim(0, 0, 0), BAD);
        due("claim w 11", x.claim(0, 0, 11), BAD);
        due("claim p 2", x.claim(2, 0, 1), BAD);
        due("claim p -1", x.claim(-1, 0, 1), BAD);
        due("claim b 2", x.claim(0, 2, 1), BAD);
        due("claim b -1", x.claim(0, -1, 1), BAD);
        due("claim b -4", x.claim(0, -4, 1), BAD);
        due("claim least", x.claim(LEAST, LEAST, LEAST), BAD);
        due("claim greatest", x.claim(GREATEST, GREATEST, GREATEST), BAD);
    }

    private static void promise20Saves() {
        LeanedBars x = told("bar 1;bar 1;person 3;person 5;");
        due("saves, none seen", x.saves(0, 0, 7), 7);
        x.saw(0, 10 + 15);
        // alone 5 times 3 or 3 times 5; no both of them
        for (int w = 1; w <= 10; w++) {
            due("saves(0, 0, " + w + ")", x.saves(0, 0, w), 5);
            due("saves(1, 0, " + w + ")", x.saves(1, 0, w), 3);
        }
        x.saw(0, 10 + 30);
        // 10 times 3; 5 times 3 and 3 times 5; 6 times 5
        int[] nearest = {5, 5, 5, 5, 5, 5, 5, 10, 10, 10};
        for (int w = 1; w <= 10; w++) {
            due("saves two (0, 0, " + w + ")", x.saves(0, 0, w), nearest[w - 1]);
        }
        x.saw(0, 10 + 33);
        // 6 times 3 and 3 times 5; 1 and 6: of w = 3 nearer to 1, of 4 to 6
        due("saves nearer below", x.saves(0, 0, 3), 1);
        due("saves nearer above", x.saves(0, 0, 4), 6);
        x.saw(0, 10);
        due("saves on the other bar", x.saves(0, 1, 10), 10);
        due("saves nothing", x.saves(0, 0, 10), NONE);
        x.saw(0, 0);
        due("saves, no WAYS", x.saves(0, 1, 1), NONE);
        due("saves w 0", x.saves(0, 0, 0), BAD);
        due("saves w 11", x.saves(0, 0, 11), BAD);
        due("saves p 2", x.saves(2, 0, 1), BAD);
        due("saves p -1", x.saves(-1, 0, 1), BAD);
        due("saves b 2", x.saves(0, 2, 1), BAD);
        due("saves b -4", x.saves(0, -4, 1), BAD);
        due("saves least", x.saves(LEAST, LEAST, LEAST), BAD);
        due("saves greatest", x.saves(GREATEST, GREATEST, GREATEST), BAD);
        LeanedBars even = told("bar 1;person 1;person 2;paint 0 2 1;paint 0 3 1;paint 0 4 1;");
        even.saw(0, 7 + 2);
        // DRY years of 2 WINTERS are 2, so are those of 3, 4, 5; of 1 WINTER 1, the second can't add 1
        due("saves below them", even.saves(0, 0, 1), 2);
        due("saves above them", even.saves(0, 0, 9), 5);
    }

    private static void promise21Scrape() {
        due("scrape, no bars", told("person 1;").scrape(0), NONE);
        LeanedBars x = told("bar 1;bar 1;bar 1;person 1;paint 1 0 1;paint 1 1 1;");
        // bar 0: not held in 21 of 31 WAYS; bar 1: in 21 and two WINTERS that leave nothing
        due("scrape which", x.scrape(0), 0);
        due("scrape how many", x.scrape(1), 21);
        x.saw(0, 10);
        due("scrape, the first was seen", x.scrape(0), 2);
        due("scrape, how many then", x.scrape(1), 11);
        x.saw(2, 10);
        due("scrape, one is left", x.scrape(0), 1);
        due("scrape, how many of it", x.scrape(1), 3);
        x.saw(1, 8);
        due("scrape, all were seen", x.scrape(0), NONE);
        due("scrape, all were seen, how many", x.scrape(1), NONE);
        x.hide(0);
        due("scrape, hidden", x.scrape(0), 0);
        x.saw(1, 0);
        due("scrape, no WAYS", x.scrape(0), NONE);
        due("scrape, no WAYS, how many", x.scrape(1), NONE);
        due("scrape(2)", x.scrape(2), BAD);
        due("scrape(-1)", x.scrape(-1), BAD);
        due("scrape(least)", x.scrape(LEAST), BAD);
        due("scrape(greatest)", x.scrape(GREATEST), BAD);
        LeanedBars three = told("bar 1;person 1;person 1;person 1;");
        // three of 0 .. 10 each that are 15: 17 * 16 / 2 - 3 * (6 * 5 / 2)
        due("scrape, three", three.scrape(1), 91);
        LeanedBars dry = told("bar 1;person 9;person 9;person 9;paint 0 4 1;paint 0 5 1;paint 0 6 1;paint 0 7 1;"
            + "paint 0 8 1;paint 0 9 1;");
        due("scrape, three with 4 WINTERS or more each", dry.scrape(1), 7 * 7 * 7);
        LeanedBars either = told("bar 1;bar 1;person 3;person 5;");
        either.saw(0, 10 + 30);
        // ten times 3, six times 5, or five times 3 and three times 5; who is left over holds none,
        // or the other bar: that is not held in 3 WAYS of 23, and other RUSTS are of 2 at most
        due("scrape, who is left over", either.scrape(0), 1);
        due("scrape, who is left over, how many", either.scrape(1), 3);
        due("scrape, nobody", told("bar 1;bar 2;").scrape(0), 0);
        due("scrape, nobody, how many", told("bar 1;bar 2;").scrape(1), 1);
    }

    private static LeanedBars differing() {
        // RUST in YEAR 9: 10, 11, 12, 13, 14, 15
        LeanedBars x = told(times(6, "bar 1;") + "person 1;");
        x.holds(0, 1, 0, 1);
        x.holds(0, 2, 0, 2);
        x.holds(0, 3, 0, 3);
        x.holds(0, 4, 0, 4);
        x.holds(0, 5, 0, 5);
        return x;
    }

    private static void dueSwaps(LeanedBars x, int[] seen, int want) {
        for (int b = 0; b < 6; b++) {
            if (seen[b] != NONE) {
                x.saw(b, seen[b]);
            } else if (x.seen(b) != NONE) {
                x.hide(b);
            }
        }
        due("swaps() of " + java.util.Arrays.toString(seen), x.swaps(), want);
    }

    private static void promise22Swaps() {
        LeanedBars x = differing();
        due("swaps, none seen", x.swaps(), 0);
        dueSwaps(x, new int[] {10, 11, 12, 13, 14, 15}, 0);
        dueSwaps(x, new int[] {11, 10, 12, 13, 14, 15}, 1);
        dueSwaps(x, new int[] {11, 10, 13, 12, 15, 14}, 3);
        dueSwaps(x, new int[] {11, 12, 10, 14, 15, 13}, 4);
        dueSwaps(x, new int[] {11, 12, 13, 14, 15, 10}, 5);
        dueSwaps(x, new int[] {10, 11, 12, 13, 14, 16}, NONE);
        dueSwaps(x, new int[] {10, 11, 12, 13, 14, 14}, NONE);
        dueSwaps(x, new int[] {11, NONE, NONE, NONE, NONE, NONE}, NONE);
        dueSwaps(x, new int[] {11, 10, NONE, NONE, NONE, NONE}, 1);
        dueSwaps(x, new int[] {12, NONE, 10, NONE, NONE, NONE}, 1);
        dueSwaps(x, new int[] {12, 10, NONE, NONE, NONE, NONE}, NONE);
        dueSwaps(x, new int[] {NONE, NONE, NONE, NONE, NONE, 15}, 0);
        LeanedBars same = told("bar 1;bar 1;bar 2;bar 2;bar 3;bar 3;");
        dueSwaps(same, new int[] {20, 20, 10, 10, 30, 30}, 2);
        dueSwaps(same, new int[] {20, 30, 10, 30, 10, 20}, 3);
        dueSwaps(same, new int[] {10, 20, 30, 20, 10, 30}, 2);
        dueSwaps(same, new int[] {20, 20, 30, 30, 10, 10}, 4);
        dueSwaps(same, new int[] {20, 30, 30, 10, 10, 20}, 3);
        dueSwaps(same, new int[] {30, 20, 30, 10, 20, 10}, 3);
        dueSwaps(same, new int[] {30, 10, 30, 20, 20, 10}, 2);
        dueSwaps(same, new int[] {10, 20, 20, 20, 30, 30}, NONE);
        due("nothing seen changed", same.seen(1), 20);
        due("nothing rusted changed", same.rust(1, 9), 10);
    }

    private static void promise23Rate() {
        due("rate, covered first and last", told("bar 1;paint 0 0 1;paint 0 9 1;").rate(1, 0), 3);
        LeanedBars x = told("bar 2;bar 3;bar 1;person 4;rain 0 0;paint 1 8 5;paint 1 2 2;paint 1 3 2;");
        x.holds(0, 1, 0, 4);
        x.holds(0, 1, 0, 1);
        x.holds(0, 2, 0, 1);
        due("rate(0, 0)", x.rate(0, 0), 2);
        due("rate(0, 1)", x.rate(0, 1), 3);
        due("rate(1, 0)", x.rate(1, 0), 2);
        due("rate(1, 1)", x.rate(1, 1), 3 + 5);
        due("rate(2, 0)", x.rate(2, 0), 2);
        due("rate(2, 1)", x.rate(2, 1), 3 - 2);
        due("rate(3, 1)", x.rate(3, 1), 16);
        due("rate(4, 1)", x.rate(4, 1), 3 - 2 + 1);
        due("rate(4, 2)", x.rate(4, 2), 1 - 1 + 2);
        due("rate(5, 0)", x.rate(5, 0), 2 + 18);
        // in 1, 5, 6, 7 by RAIN; held in 0, 1 and in 0
        due("rate(5, 1)", x.rate(5, 1), 3 + 12 + 12);
        x.holds(0, 2, 0, 1);
        x.holds(0, 2, 0, 1);
        due("rate below 0", x.rate(2, 2), -2);
        long before = x.trace();
        due("rate(6, 0)", x.rate(6, 0), NO);
        due("rate(-1, 0)", x.rate(-1, 0), NO);
        due("rate(0, 3)", x.rate(0, 3), NO);
        due("rate(0, -1)", x.rate(0, -1), NO);
        due("rate(least, least)", x.rate(LEAST, LEAST), NO);
        due("rate(greatest, greatest)", x.rate(GREATEST, GREATEST), NO);
        due("trace() behind BAD", x.trace(), before);
    }

    private static void promise24Keep() {
        LeanedBars x = told("bar 1;bar 2;person 4;");
        due("keep of nothing", x.keep(0), 0);
        x.holds(0, 0, 0, 1);
        due("keep(1)", x.keep(1), 1);
        x.holds(0, 1, 0, 1);
        due("keep(1) again", x.keep(1), 2);
        due("keep(2)", x.keep(2), BAD);
        due("keep(-1)", x.keep(-1), BAD);
        due("keep(least)", x.keep(LEAST), BAD);
        due("keep(greatest)", x.keep(GREATEST), BAD);
        due("keep changes nothing", x.count(3), 2);
        x.undo();
        x.holds(0, 0, 4, 4);
        due("the later one counts", x.back(1), 2);
        due("it stays as it was kept", x.held(1, 1), 1);
        due("the other one is its own", x.back(0), 0);
    }

    private static void promise25Back() {
        LeanedBars x = told("bar 1;bar 2;person 4;person 5;");
        due("back(0) of none", x.back(0), STATE);
        due("back(2)", x.back(2), BAD);
        due("back(-1)", x.back(-1), BAD);
        due("back(least)", x.back(LEAST), BAD);
        due("back(greatest)", x.back(GREATEST), BAD);
        x.holds(1, 0, 3, 2);
        x.saw(0, 20);
        x.keep(0);
        due("back(1) of none", x.back(1), STATE);
        x.holds(0, 1, 0, 10);
        x.saw(0, 30);
        x.saw(1, 40);
        type(x, "bar");
        x.rate(0, 0);
        due("back(0)", x.back(0), 1);
        due("back: PERSON", x.held(0, 0), 1);
        due("back: BAR", x.held(0, 1), 0);
        due("back: from", x.held(0, 2), 3);
        due("back: n", x.held(0, 3), 2);
        due("back: rust(0, 9)", x.rust(0, 9), 10 + 10);
        due("back: rust(1, 9)", x.rust(1, 9), 20);
        due("back: seen(0)", x.seen(0), 20);
        due("back: seen(1)", x.seen(1), NONE);
        due("back: the text stays", x.count(5), 3);
        due("back: the trace goes on", x.trace(), 1);
        due("back: undo()", x.undo(), 0);
        due("back: undo() of none", x.undo(), STATE);
        x.hide(0);
        due("back(0) again", x.back(0), 1);
        due("back again: seen(0)", x.seen(0), 20);
        x.holds(0, 0, 0, 1);
        due("what came behind back() changes no image", x.back(0), 1);
        x.undo();
        x.holds(0, 1, 6, 1);
        due("back: all of HOLDS", x.back(0), 1);
        int[] all = {1, 0, 3, 2};
        for (int what = 0; what <= 3; what++) {
            due("back: held(0, " + what + ")", x.held(0, what), all[what]);
        }
    }

    private static void promise26Count() {
        LeanedBars x = told("bar 1;bar 2;person 4;person 5;person 6;paint 0 0 1;paint 0 0 1;paint 1 0 1;paint 1 9 5;");
        type(x, " ; x ; ");
        for (int i = 0; i < 5; i++) {
            x.holds(0, 0, i, 1);
        }
        x.saw(1, 0);
        int[] due = {2, 3, 4, 5, 1, 7};
        for (int what = 0; what <= 5; what++) {
            due("count(" + what + ")", x.count(what), due[what]);
        }
        due("count(6)", x.count(6), BAD);
        due("count(-1)", x.count(-1), BAD);
        due("count(least)", x.count(LEAST), BAD);
        due("count(greatest)", x.count(GREATEST), BAD);
    }

    private static void promise27Trace() {
        LeanedBars x = told("bar 1;person 1;");
        int[] marks = {1, 11, 101, 1011, 10101, 100001};
        long sum = 0;
        for (int kind = 0; kind <= 5; kind++) {
            x.rate(kind, 0);
            sum += marks[kind];
            due("trace() behind rate(" + kind + ", 0)", x.trace(), sum);
        }
        x.keep(0);
        x.holds(0, 0, 0, 1);
        x.undo();
        x.back(0);
        due("trace() behind undo(), back()", x.trace(), sum);
        x.square();
        due("trace() behind square()", x.trace(), sum);
        x.rate(0, 0);
        due("trace() behind BAD", x.trace(), sum);
        type(x, "bar 1;");
        x.square();
        for (int i = 0; i < 300; i++) {
            x.rate(5, 0);
        }
        due("trace() goes on", x.trace(), sum + 300L * 100001);
    }
}
