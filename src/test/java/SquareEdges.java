/** The edges that the document names of promises 1 to 8, and of the text: a test for each sentence. */
public final class SquareEdges {
    private static final int BAD = Bench.BAD, STATE = Bench.STATE, FULL = Bench.FULL, NONE = Bench.NONE;
    private static final int LEAST = Bench.LEAST, GREATEST = Bench.GREATEST;
    private static final String SIX = "bar 1;bar 2;bar 3;bar 3;bar 2;bar 1;";
    private static final String RICH = "bar 2;bar 3;person 4;person 9;rain 0 3;rain 9 0;paint 1 2 3;paint 0 9 5;";

    public static void main(String[] args) {
        constants();
        newObject();
        typeTakesOneToEightBytes();
        typeTakesTheLowestTheHighestFirst();
        typeOfTheLeastAndTheGreatestLong();
        typeToTheLastRoom();
        typeRefusedForTwoReasons();
        clearCounts();
        clearLeavesTheRest();
        textsWithoutItems();
        textsOfTheGreatestLength();
        sixBarsAtMost();
        threePeopleAtMost();
        eightPaintsAtMost();
        numbersOfBar();
        numbersOfPerson();
        numbersOfRain();
        numbersOfPaint();
        paintOfABarThatWasTold();
        rainToldAgain();
        blanksAreNotNeeded();
        blanksAnyNumber();
        otherBytesAreNoBlanks();
        everyByteAheadOfAll();
        everyByteAheadOfANumber();
        everyByteBehindANumber();
        everyByteBehindAnItem();
        wordsThatAreNoneOfThese();
        wordsCutOffByTheEnd();
        tokensThatCannotStandThere();
        numbersTooLongOrWithAZeroAhead();
        textsThatEndTooEarly();
        theFirstFaultCounts();
        aFaultChangesNothing();
        aTextTellsAllAnew();
        barNumbers();
        personNumbers();
        rainNumbers();
        paintNumbers();
        paintLasts();
        paintByAnyOfIt();
        Bench.end();
    }

    private static Bench told(String text, String... rows) {
        return Bench.told(text, rows);
    }

    private static String times(int n, String text) {
        return Bench.times(n, text);
    }

    /** A square with all that a call could spoil, and a text begun. */
    private static Bench rich() {
        return told(RICH, "holds 0 1 0 10", "saw 0 20", "keep 0", "holds 1 0 3 2", "saw 1 999", "rate 3 1").types("bar");
    }

    private static void reads(String text, int items) {
        new Bench().types(text).due("count 5", text.length()).due("square", items).due("count 5", 0);
    }

    private static void faults(String text, int place) {
        new Bench().types(text).same("square", -10 - place);
    }

    /** Each number in one place of a text: within bounds, and out of them the fault of just that place. */
    private static void numberStands(String ahead, String behind, int least, int most) {
        int items = (ahead + behind).replaceAll("[^;]", "").length();
        for (int number = 0; number <= 120; number++) {
            if (number >= least && number <= most) {
                reads(ahead + number + behind, items);
            } else {
                faults(ahead + number + behind, ahead.length());
            }
        }
        String[] never = {"00", "0" + most, "00" + most, "000", "256", "257", "999", "1000", "65537", "2147483647",
            "2147483648", "4294967296", "4294967297", "4294967298", "18446744073709551617"};
        for (String number : never) {
            faults(ahead + number + behind, ahead.length());
        }
    }

    // ---- promise 1

    private static void constants() {
        Bench.sentence("BAD = -1, STATE = -2, FULL = -3, NONE = -9, NO = -1000000");
        if (LeanedBars.BAD != -1 || LeanedBars.STATE != -2 || LeanedBars.FULL != -3 || LeanedBars.NONE != -9
            || LeanedBars.NO != -1000000) {
            System.out.println("a constant is not as told");
            System.exit(1);
        }
    }

    private static void newObject() {
        Bench.sentence("1: As told; no BARS, nobody");
        Bench x = new Bench();
        for (int what = 0; what <= 5; what++) {
            x.same("count " + what, 0);
        }
        x.bounds("bar %", 0, -1, BAD).bounds("person %", 0, -1, BAD);
        for (int y = 0; y <= 9; y++) {
            x.same("rain " + y, 1).same("paint 0 " + y, BAD).same("rust 0 " + y, BAD);
        }
        x.same("undo", STATE).same("back 0", STATE).same("back 1", STATE).same("trace", 0);
        x.same("holds 0 0 0 1", BAD).same("held 0 0", BAD).same("saw 0 0", BAD).same("hide 0", BAD).same("seen 0", BAD);
        x.same("fits", 1).same("sure 0", BAD).same("odds 0 -4 0", BAD).same("claim 0 0 1", BAD).same("saves 0 0 1", BAD);
        x.same("scrape 0", NONE).same("scrape 1", NONE).same("swaps", 0).same("rate 0 0", Bench.NO);
        x.same("clear", 0).same("square", 0);
    }

    // ---- promise 2

    private static void typeTakesOneToEightBytes() {
        Bench.sentence("2: n (1 .. 8); BAD");
        for (int n = 1; n <= 8; n++) {
            new Bench().due("type 0 " + n, n).due("count 5", n);
        }
        rich().bounds("type 59 %", 1, 8, BAD);
        rich().bounds("type " + Long.MIN_VALUE + " %", 1, 8, BAD);
        rich().bounds("type " + Long.MAX_VALUE + " %", 1, 8, BAD);
    }

    private static void typeTakesTheLowestTheHighestFirst() {
        Bench.sentence("2: the lowest n bytes of v, the highest of them first");
        String text = "bar 2;person 7;rain 4 3;";
        for (int n = 1; n <= 8; n++) {
            for (long above : new long[] {0, -1, 0x7A7A7A7A7A7A7A7AL}) {
                Bench x = new Bench();
                for (int at = 0; at < text.length(); at += n) {
                    String piece = text.substring(at, Math.min(text.length(), at + n));
                    long rest = piece.length() == 8 ? 0 : above << 8 * piece.length();
                    x.due("type " + (rest | Bench.packed(piece)) + " " + piece.length(), at + piece.length());
                }
                x.due("square", 3).due("bar 0", 2).due("person 0", 7).due("rain 4", 3);
            }
        }
        new Bench().types("bar ").due("type " + Bench.packed("12;") + " 2", 6).due("square", 1).due("bar 0", 2);
    }

    private static void typeOfTheLeastAndTheGreatestLong() {
        Bench.sentence("2: of the least and the greatest long");
        new Bench().due("type " + Long.MIN_VALUE + " 8", 8).due("square", -10).due("count 5", 8);
        new Bench().due("type " + Long.MAX_VALUE + " 8", 8).due("square", -10).due("count 5", 8);
        new Bench().due("type -1 8", 8).due("square", -10);
        new Bench().due("type 0 8", 8).due("square", -10);
        new Bench().due("type " + (Long.MIN_VALUE | 0x20202020202020L) + " 7", 7).due("square", 0);
        new Bench().due("type " + (Long.MAX_VALUE - 0xFF + 0x20) + " 1", 1).due("square", 0);
    }

    private static void typeToTheLastRoom() {
        Bench.sentence("2: FULL (a text of 300 bytes at most)");
        for (int n = 1; n <= 8; n++) {
            long v = Bench.packed(times(n, " "));
            new Bench().types(times(300 - n, " ")).due("type " + v + " " + n, 300).due("count 5", 300).due("square", 0);
            Bench x = new Bench().types(times(301 - n, " ")).same("type " + v + " " + n, FULL);
            if (n > 1) {
                x.due("type " + (v >>> 8) + " " + (n - 1), 300);
            }
            for (int more = 1; more <= 8; more++) {
                x.same("type " + v + " " + more, FULL);
            }
            x.due("count 5", 300).due("square", 0).due("type " + v + " " + n, n);
        }
    }

    private static void typeRefusedForTwoReasons() {
        Bench.sentence("Refused, the first of these: BAD, STATE, FULL (type)");
        new Bench().types(times(300, " ")).bounds("type 32 %", 1, 8, BAD);
        new Bench().types(times(293, " ")).same("type 32 9", BAD).same("type 32 8", FULL).same("type 32 0", BAD);
    }

    // ---- promise 3

    private static void clearCounts() {
        Bench.sentence("3: THE TEXT is empty: how many bytes it had");
        new Bench().due("clear", 0).due("clear", 0).due("type 59 1", 1).due("clear", 1).due("count 5", 0);
        new Bench().types(times(300, "x")).due("clear", 300).due("clear", 0).types(times(300, " ")).due("count 5", 300);
        new Bench().types("xyz").due("clear", 3).types("bar 3;").due("square", 1).due("bar 0", 3);
        new Bench().types("bar 1;").due("square", 1).due("clear", 0);
        new Bench().types("bar 1").due("square", -15).due("clear", 5).due("square", 0);
    }

    private static void clearLeavesTheRest() {
        Bench.sentence("3: nothing but THE TEXT is changed");
        rich().due("clear", 3).like(
            told(RICH, "holds 0 1 0 10", "saw 0 20", "keep 0", "holds 1 0 3 2", "saw 1 999", "rate 3 1"));
    }

    // ---- promise 4: what can be read

    private static void textsWithoutItems() {
        Bench.sentence("ITEMS (none, too)");
        reads("", 0);
        reads(" ", 0);
        reads(times(300, " "), 0);
        told(RICH).due("square", 0).due("count 0", 0).due("count 1", 0).due("count 2", 0).due("rain 0", 1)
            .due("rain 9", 1).like(new Bench());
    }

    private static void textsOfTheGreatestLength() {
        Bench.sentence("a text of 300 bytes at most");
        String most = times(6, "bar1;") + times(33, "rain0 0;");
        reads(most, 39);
        reads(most + times(6, " "), 39);
        reads(times(6, " ") + most, 39);
        reads(times(277, " ") + "bar1;person1;rain0 3;" + "  ", 3);
        reads(times(295, " ") + "bar3;", 1);
        faults(times(296, " ") + "bar3", 300);
        faults(times(299, " ") + ";", 299);
        faults(times(299, " ") + "b", 299);
        faults(times(299, " ") + "1", 299);
    }

    private static void sixBarsAtMost() {
        Bench.sentence("BARS 0 .. (6 at most); a seventh bar: the place of the TOKEN that can't stand");
        for (int n = 0; n <= 6; n++) {
            new Bench().types(times(n, "bar 3;")).due("square", n).due("count 0", n).due("bar " + n, BAD)
                .due("bar " + (n - 1), n == 0 ? BAD : 3);
        }
        faults(times(7, "bar 1;"), 36);
        faults(times(6, "bar 1;") + "  bar", 38);
        faults(times(6, "bar 1;") + "bar 9;", 36);
        faults(times(6, "bar 1;") + "person 1;bar;", 45);
        faults(times(6, "bar 1;") + "ba", 36);
    }

    private static void threePeopleAtMost() {
        Bench.sentence("PEOPLE 0 .. (3 at most); a fourth person: the place of the TOKEN that can't stand");
        for (int n = 0; n <= 3; n++) {
            new Bench().types(times(n, "person 9;")).due("square", n).due("count 1", n).due("person " + n, BAD)
                .due("person " + (n - 1), n == 0 ? BAD : 9);
        }
        faults(times(4, "person 1;"), 27);
        faults(times(3, "person 1;") + " person", 28);
        faults(times(3, "person 1;") + "person 0;", 27);
        faults(times(3, "person 1;") + "bar 1;person;", 33);
    }

    private static void eightPaintsAtMost() {
        Bench.sentence("PAINT (8 at most); a ninth paint: the place of the TOKEN that can't stand");
        for (int n = 0; n <= 8; n++) {
            new Bench().types("bar1;" + times(n, "paint 0 5 1;")).due("square", n + 1).due("count 2", n)
                .due("paint 0 5", n == 0 ? 0 : 2);
        }
        faults("bar1;" + times(9, "paint 0 5 1;"), 101);
        faults("bar1;" + times(8, "paint 0 5 1;") + " paint", 102);
        faults("bar1;" + times(8, "paint 0 5 1;") + "paint 1 0 1;", 101);
        faults("bar1;" + times(8, "paint 0 5 1;") + "bar1;paint;", 106);
        reads(times(6, "bar1;") + times(8, "paint5 9 5;"), 14);
        Bench x = new Bench().types(times(6, "bar1;") + "paint0 0 1;paint1 1 1;paint2 2 1;paint3 3 1;paint4 4 1;"
            + "paint5 5 1;paint0 6 1;paint1 7 1;").due("square", 14);
        x.due("paint 0 0", 2).due("paint 1 1", 2).due("paint 2 2", 2).due("paint 3 3", 2).due("paint 4 4", 2);
        x.due("paint 5 5", 2).due("paint 0 6", 2).due("paint 1 7", 2);
    }

    // ---- promise 4: numbers

    private static void numbersOfBar() {
        Bench.sentence("bar M: METAL (1 .. 3)");
        numberStands("bar ", ";", 1, 3);
        numberStands("bar 1;bar", ";bar 2;", 1, 3);
        for (int metal = 1; metal <= 3; metal++) {
            told("bar " + metal + ";").due("bar 0", metal);
        }
    }

    private static void numbersOfPerson() {
        Bench.sentence("person G: GRIP (1 .. 9)");
        numberStands("person ", ";", 1, 9);
        for (int grip = 1; grip <= 9; grip++) {
            told("person " + grip + ";").due("person 0", grip);
        }
    }

    private static void numbersOfRain() {
        Bench.sentence("rain Y N: of a YEAR (0 .. 9), 0 .. 3; 1 at first of each");
        numberStands("rain ", " 2;", 0, 9);
        numberStands("rain 9 ", ";", 0, 3);
        for (int year = 0; year <= 9; year++) {
            for (int much = 0; much <= 3; much++) {
                Bench x = told("rain " + year + " " + much + ";");
                for (int y = 0; y <= 9; y++) {
                    x.due("rain " + y, y == year ? much : 1);
                }
            }
        }
    }

    private static void numbersOfPaint() {
        Bench.sentence("paint B Y N: a BAR that was told, in a YEAR, that lasts N years (1 .. 5)");
        numberStands("bar 1;paint 0 ", " 5;", 0, 9);
        numberStands("bar 1;paint 0 9 ", ";", 1, 5);
    }

    private static void paintOfABarThatWasTold() {
        Bench.sentence("a B that was not told");
        for (int bars = 0; bars <= 6; bars++) {
            numberStands(times(bars, "bar 1;") + "paint ", " 0 1;", 0, bars - 1);
        }
        faults("paint 0 0 1;bar 1;", 6);
        faults("bar 1;paint 1 0 1;bar 1;", 12);
        reads("bar 1;paint 0 0 1;bar 1;paint 1 0 1;", 4);
        new Bench().types("bar 1;").due("square", 1).types("paint 0 0 1;").same("square", -16);
    }

    private static void rainToldAgain() {
        Bench.sentence("rain told again: the later one counts");
        told("rain 9 3;rain 9 0;").due("rain 9", 0);
        told("rain 9 0;rain 9 3;").due("rain 9", 3);
        told("rain 0 3;rain 1 2;rain 0 1;").due("rain 0", 1).due("rain 1", 2);
        told("rain 0 3;rain 0 3;").due("rain 0", 3);
        faults("rain 0 3;rain 0 4;", 16);
    }

    // ---- promise 4: tokens

    private static void blanksAreNotNeeded() {
        Bench.sentence("blanks (needed only between two rows of letters, two NUMBERS)");
        reads("bar1;person1;rain0 0;paint0 0 1;", 4);
        reads("bar1;bar1;", 2);
        faults("rain00;", 4);
        faults("rain 10;", 5);
        faults("bar1;paint0 01;", 12);
        faults("bar1;paint00 1;", 10);
        faults("barbar1;", 0);
        faults("barperson", 0);
        faults("bar1bar1;", 4);
        faults("bar1person1;", 4);
    }

    private static void blanksAnyNumber() {
        Bench.sentence("blanks (32), any number, ahead of, between, behind TOKENS");
        for (int n = 1; n <= 40; n++) {
            String blanks = times(n, " ");
            reads(blanks + "bar1;rain0 0;", 2);
            reads("bar" + blanks + "1;rain0 0;", 2);
            reads("bar1" + blanks + ";rain0 0;", 2);
            reads("bar1;" + blanks + "rain0 0;", 2);
            reads("bar1;rain0" + blanks + "0;", 2);
            reads("bar1;rain0 0;" + blanks, 2);
            faults(blanks + ";", n);
            faults("bar" + blanks, 3 + n);
        }
        faults("ba r 1;", 0);
        faults("rain 0 1 2;", 9);
        faults("bar 1 0;", 6);
    }

    private static void otherBytesAreNoBlanks() {
        Bench.sentence("a byte that begins none (blanks are 32 alone)");
        for (int sign : new int[] {0, 1, 8, 9, 10, 11, 12, 13, 27, 31, 33, 44, 45, 46, 95, 127, 128, 133, 160, 255}) {
            char c = (char) sign;
            faults(c + "bar 1;", 0);
            faults("bar" + c + "1;", 3);
            faults("bar 1" + c + ";", 5);
            faults("bar 1;" + c, 6);
            faults("bar 1; " + c + "bar 1;", 7);
        }
    }

    private static boolean isLetter(int sign) {
        return sign >= 'a' && sign <= 'z';
    }

    private static void everyByteAheadOfAll() {
        Bench.sentence("ahead of the first ITEM stand blanks alone");
        for (int sign = 0; sign <= 255; sign++) {
            if (sign == ' ') {
                reads((char) sign + "bar 1;", 1);
            } else {
                faults((char) sign + "bar 1;", 0);
            }
        }
    }

    private static void everyByteAheadOfANumber() {
        Bench.sentence("between a word and its NUMBER stand blanks alone");
        for (int sign = 0; sign <= 255; sign++) {
            String text = "bar" + (char) sign + " 2;";
            if (sign == ' ') {
                reads(text, 1);
            } else if (sign >= '1' && sign <= '3') {
                faults(text, 5);
            } else {
                faults(text, isLetter(sign) ? 0 : 3);
            }
        }
    }

    private static void everyByteBehindANumber() {
        Bench.sentence("behind the last NUMBER stands ; alone");
        for (int sign = 0; sign <= 255; sign++) {
            String text = "bar 2" + (char) sign + "person 2;";
            if (sign == ';') {
                reads(text, 2);
            } else if (sign == ' ') {
                faults(text, 6);
            } else {
                faults(text, sign >= '0' && sign <= '9' ? 4 : 5);
            }
        }
    }

    private static void everyByteBehindAnItem() {
        Bench.sentence("behind an ITEM stand blanks, or a word of these");
        for (int sign = 0; sign <= 255; sign++) {
            if (sign == ' ') {
                reads("bar 2;" + (char) sign, 1);
            } else {
                faults("bar 2;" + (char) sign, 6);
            }
        }
    }

    private static void wordsThatAreNoneOfThese() {
        Bench.sentence("a word that is none of these");
        String[][] words = {{"bar", " 1;"}, {"person", " 1;"}, {"rain", " 0 1;"}, {"paint", " 0 0 1;"}};
        for (String[] word : words) {
            for (int n = 1; n < word[0].length(); n++) {
                faults("bar 1;" + word[0].substring(0, n) + word[1], 6);
                faults("bar 1; " + word[0].substring(n) + word[1], 7);
            }
            for (int n = 0; n < word[0].length(); n++) {
                StringBuilder other = new StringBuilder(word[0]);
                other.setCharAt(n, 'z');
                faults("bar 1;" + other + word[1], 6);
                other.setCharAt(n, (char) (word[0].charAt(n) - 32));
                faults("bar 1;" + other + word[1], 6);
            }
            for (char c = 'a'; c <= 'z'; c++) {
                faults("bar 1;" + word[0] + c + word[1], 6);
                faults("bar 1;" + c + word[0] + word[1], 6);
            }
            faults("bar 1;" + word[0] + word[0] + word[1], 6);
            reads("bar 1;" + word[0] + word[1], 2);
        }
        faults(times(300, "a"), 0);
        faults("bar 1;" + times(294, "r"), 6);
    }

    private static void wordsCutOffByTheEnd() {
        Bench.sentence("a word that is none of these, that TOKEN's (cut off by the end of THE TEXT: no other place)");
        for (String word : new String[] {"bar", "person", "rain", "paint"}) {
            for (int n = 1; n < word.length(); n++) {
                String cut = word.substring(0, n);
                faults(cut, 0);
                faults("bar 1;" + cut, 6);
                faults("bar 1;   " + cut + "  ", 9);
                faults(times(300 - n, " ") + cut, 300 - n);
                faults("bar " + cut, 4);
            }
            faults(word, word.length());
            faults("bar 1;" + word, 6 + word.length());
            faults(times(300 - word.length(), " ") + word, 300);
            new Bench().types(word.substring(0, 2)).same("square", -10).types(word.substring(2)).same("square",
                -10 - word.length());
        }
    }

    private static void tokensThatCannotStandThere() {
        Bench.sentence("the first TOKEN that can't stand there");
        String[] items = {"bar 1;", "person 1;", "rain 0 1;", "paint 0 0 1;"};
        String[][] parts = {{"bar", "1", ";"}, {"person", "1", ";"}, {"rain", "0", "1", ";"}, {"paint", "0", "0", "1", ";"}};
        String[] others = {"bar", "person", "rain", "paint", "zzz", "100", "00", ";", "#"};
        for (int i = 0; i < items.length; i++) {
            for (int part = 0; part <= parts[i].length; part++) {
                StringBuilder ahead = new StringBuilder("bar 1; ");
                for (int before = 0; before < part; before++) {
                    ahead.append(parts[i][before]).append(' ');
                }
                for (String other : others) {
                    boolean begins = isLetter(other.charAt(0)) && !other.equals("zzz");
                    boolean stands = begins && part % parts[i].length == 0
                        || other.equals(";") && part == parts[i].length - 1;
                    if (!stands) {
                        faults(ahead + other + " 0;", ahead.length());
                    }
                }
            }
        }
        faults("1", 0);
        faults("bar 1;1;", 6);
        faults("bar 1;;", 6);
        faults(";", 0);
    }

    private static void numbersTooLongOrWithAZeroAhead() {
        Bench.sentence("a NUMBER above 99 or with a 0 ahead of others, that TOKEN's");
        for (String number : new String[] {"100", "101", "999", "1000", "00", "01", "09", "001", "000", times(200, "0"),
            times(200, "9"), "1" + times(200, "0"), "99999999999999999999"}) {
            faults(number, 0);
            faults("bar  " + number + ";", 5);
            faults("bar 1 " + number + ";", 6);
            faults("bar 1;" + number + ";", 6);
            faults("rain 0 " + number + ";", 7);
        }
    }

    private static void textsThatEndTooEarly() {
        Bench.sentence("the text's length, if it ends too early");
        String[][] items = {{"bar", "1", ";"}, {"person", "1", ";"}, {"rain", "0", "1", ";"}, {"paint", "0", "0", "1", ";"}};
        for (String[] item : items) {
            StringBuilder text = new StringBuilder("bar 1;");
            for (int part = 0; part < item.length - 1; part++) {
                text.append(item[part]);
                faults(text.toString(), text.length());
                text.append(' ');
                faults(text.toString(), text.length());
                faults(text + "   ", text.length() + 3);
                faults(text + times(300 - text.length(), " "), 300);
            }
            reads(text + ";", 2);
        }
    }

    private static void theFirstFaultCounts() {
        Bench.sentence("the first TOKEN that can't stand (a text with two faults)");
        faults("bar 4;bar 4;", 4);
        faults("bar 1;bar 0", 10);
        faults("bar 0 zzz", 4);
        faults("zzz 100", 0);
        faults("bar 1 100", 6);
        faults("paint 9 99 9", 6);
        faults("bar 1;paint 0 10 6;", 14);
        faults("bar 1;paint 6 10 6;", 12);
        faults("rain 10 4;", 5);
        faults("# zzz", 0);
        faults(times(7, "bar 1;") + times(4, "person 1;"), 36);
        faults(times(4, "person 1;") + times(7, "bar 1;"), 27);
    }

    private static void aFaultChangesNothing() {
        Bench.sentence("-10 less FAULT: nothing changes (THE TEXT stays, too)");
        String[] spoilt = {"bar 1;bar", "person 1;rain 0 0;person", "rain 3 3;;", "bar 1;paint 0 0 5;paint 1 0 1;", "x",
            times(6, "bar 3;") + times(3, "person 9;") + "zzz", "bar 1;" + times(9, "paint 0 0 1;")};
        int[] places = {9, 24, 9, 24, 0, 63, 102};
        for (int i = 0; i < spoilt.length; i++) {
            Bench x = rich().due("clear", 3).types(spoilt[i]);
            x.same("square", -10 - places[i]).same("square", -10 - places[i]).due("count 5", spoilt[i].length());
            x.due("bar 1", 3).due("person 1", 9).due("rain 3", 1).due("paint 1 2", 2).due("count 2", 2);
            x.due("count 3", 2).due("seen 1", 999).due("back 0", 1).due("undo", 0).due("trace", 1011);
        }
        rich().same("square", -13).types(" 1;").due("square", 1).due("bar 0", 1);
        // nothing of what was read ahead of the FAULT is left over for the next text
        Bench next = rich().due("clear", 3).types(spoilt[5]).same("square", -73).due("clear", spoilt[5].length());
        next.types("rain 1 2;").due("square", 1).like(told(RICH, "rate 3 0").types("rain 1 2;").takes("square"));
    }

    private static void aTextTellsAllAnew() {
        Bench.sentence("Read anew: as told, no HOLDS, nothing SEEN, IMAGES are gone, nothing can be UNDONE; THE TRACE goes on");
        for (String text : new String[] {"bar 3;", "bar 1;person 1;", SIX, RICH, "bar 1;paint 0 0 1;rain 4 3;"}) {
            Bench anew = rich().due("clear", 3).takes("keep 1").types(text).takes("square");
            anew.like(told(text, "rate 3 0")).due("trace", 1011);
            anew.due("count 3", 0).due("count 4", 0).due("count 5", 0).due("undo", STATE).due("back 0", STATE);
            anew.due("back 1", STATE).due("seen 0", NONE);
        }
        rich().due("clear", 3).due("square", 0).due("trace", 1011).due("count 0", 0).due("count 1", 0).due("back 0", STATE);
    }

    // ---- promises 5 to 8

    private static void barNumbers() {
        Bench.sentence("5: METAL of a BAR. BAD");
        new Bench().bounds("bar %", 0, -1, BAD).bounds("bar %", 1, -1, BAD);
        told("bar 2;").same("bar 0", 2).bounds("bar %", 0, 0, BAD);
        told(SIX).same("bar 0", 1).same("bar 1", 2).same("bar 2", 3).same("bar 5", 1).bounds("bar %", 0, 5, BAD);
        told("person 1;person 2;person 3;").bounds("bar %", 0, -1, BAD);
        told(SIX).types("bar 3;").takes("square").same("bar 0", 3).bounds("bar %", 0, 0, BAD);
    }

    private static void personNumbers() {
        Bench.sentence("6: GRIP of a PERSON. BAD");
        new Bench().bounds("person %", 0, -1, BAD);
        told("person 7;").same("person 0", 7).bounds("person %", 0, 0, BAD);
        told("person 9;person 1;person 5;").same("person 0", 9).same("person 1", 1).same("person 2", 5)
            .bounds("person %", 0, 2, BAD);
        told(SIX).bounds("person %", 0, -1, BAD);
        told("person 9;person 1;").types("person 3;").takes("square").same("person 0", 3).bounds("person %", 0, 0, BAD);
    }

    private static void rainNumbers() {
        Bench.sentence("7: RAIN of a YEAR (1 at first of each). BAD");
        new Bench().same("rain 0", 1).same("rain 9", 1).bounds("rain %", 0, 9, BAD);
        told("rain 0 0;rain 9 3;").same("rain 0", 0).same("rain 1", 1).same("rain 8", 1).same("rain 9", 3)
            .bounds("rain %", 0, 9, BAD);
        told("rain 0 0;rain 9 3;").due("square", 0).same("rain 0", 1).same("rain 9", 1);
    }

    private static void paintNumbers() {
        Bench.sentence("8: Of a BAR in a YEAR. BAD");
        new Bench().bounds("paint % 0", 0, -1, BAD).bounds("paint 0 %", 0, -1, BAD);
        told("bar 1;").bounds("paint % 0", 0, 0, BAD).bounds("paint 0 %", 0, 9, BAD).bounds("paint 1 %", 10, 9, BAD);
        told(SIX + "paint 5 9 5;").same("paint 5 9", 2).same("paint 0 0", 0).same("paint 5 0", 0)
            .bounds("paint % 9", 0, 5, BAD).bounds("paint 5 %", 0, 9, BAD);
        told(SIX).same("paint " + LEAST + " " + LEAST, BAD).same("paint " + GREATEST + " " + GREATEST, BAD)
            .same("paint -1 10", BAD).same("paint 6 -1", BAD);
    }

    private static void paintLasts() {
        Bench.sentence("WET in a YEAR in which it was painted, COVERED in that and the N - 1 next ones");
        for (int year = 0; year <= 9; year++) {
            for (int lasts = 1; lasts <= 5; lasts++) {
                Bench x = told("bar 1;bar 1;bar 1;paint 1 " + year + " " + lasts + ";");
                for (int y = 0; y <= 9; y++) {
                    int want = y == year ? 2 : y > year && y < year + lasts ? 1 : 0;
                    x.due("paint 0 " + y, 0).due("paint 1 " + y, want).due("paint 2 " + y, 0);
                }
            }
        }
    }

    private static void paintByAnyOfIt() {
        Bench.sentence("COVERED by any of its PAINT");
        int[] want = {2, 2, 1, 2, 1, 1, 0, 0, 2, 1};
        String[] paints = {"paint 0 0 2;", "paint 0 1 2;", "paint 0 3 3;", "paint 0 8 5;"};
        String forth = paints[0] + paints[1] + paints[2] + paints[3];
        String turned = paints[3] + paints[2] + paints[1] + paints[0];
        for (String text : new String[] {"bar 1;" + forth, "bar 1;" + turned, "bar 1;" + forth + turned}) {
            Bench x = told(text);
            for (int y = 0; y <= 9; y++) {
                x.due("paint 0 " + y, want[y]);
            }
        }
        told("bar 1;paint 0 2 1;paint 0 0 5;").due("paint 0 2", 2).due("paint 0 4", 1).due("paint 0 5", 0);
        told("bar 1;paint 0 2 5;paint 0 2 1;").due("paint 0 2", 2).due("paint 0 6", 1).due("paint 0 7", 0);
    }
}
