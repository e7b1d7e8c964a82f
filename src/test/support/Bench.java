import java.util.ArrayList;
import java.util.Arrays;
import java.util.List;

/**
 * An object under test and the calls that it has behind it, each told as a row: "holds 0 1 0 10".
 * They are told, not just made, so that they can be made again on fresh objects: what a call leaves
 * unchanged is found by looking at all that two such objects show, one with the call and one without.
 */
final class Bench {
    static final int BAD = -1, STATE = -2, FULL = -3, NONE = -9, NO = -1000000;
    static final int LEAST = Integer.MIN_VALUE, GREATEST = Integer.MAX_VALUE;

    /** Behind the 512th call nothing is promised, so a test must not ask more. */
    private static final int MOST_CALLS = 512;
    private static final int MOST_TOLD = 40;
    private static String sentence = "";
    private static int wrong = 0;

    private final LeanedBars x = new LeanedBars();
    private final List<String> past = new ArrayList<>();
    private int calls = 0;

    /** What is tested from here on, as the document has it: ahead of each answer that is not due. */
    static void sentence(String text) {
        sentence = text;
    }

    /** At the end of each main. */
    static void end() {
        if (wrong != 0) {
            System.out.println(wrong + " answers are not as due");
            System.exit(1);
        }
    }

    /** A new object that read a text without a fault, and took some calls, none of them refused. */
    static Bench told(String text, String... rows) {
        Bench bench = new Bench().types(text);
        bench.takes("square");
        for (String row : rows) {
            bench.takes(row);
        }
        return bench;
    }

    static String times(int n, String text) {
        return text.repeat(n);
    }

    /** Types a text, eight bytes a call as far as it goes. */
    Bench types(String text) {
        for (int at = 0; at < text.length(); at += 8) {
            String piece = text.substring(at, Math.min(text.length(), at + 8));
            takes("type " + packed(piece) + " " + piece.length());
        }
        return this;
    }

    /** The signs of a text of eight at most as the bytes of a number, the first the highest. */
    static long packed(String piece) {
        long v = 0;
        for (int i = 0; i < piece.length(); i++) {
            v = v << 8 | piece.charAt(i);
        }
        return v;
    }

    /** Makes a call that must not be refused. */
    Bench takes(String row) {
        long got = call(row);
        past.add(row);
        if (got == BAD || got == STATE || got == FULL || got == NO || row.equals("square") && got < 0) {
            fail(row + " was refused: " + got);
        }
        return this;
    }

    /** Makes a call, and looks at its answer. */
    Bench due(String row, long want) {
        long got = call(row);
        past.add(row);
        if (got != want) {
            fail(row + " answered " + got + ", due is " + want);
        }
        return this;
    }

    /** Makes a call, looks at its answer, and that all stays as it was (refused or only asked). */
    Bench same(String row, long want) {
        long got = call(row);
        if (got != want) {
            fail(row + " answered " + got + ", due is " + want);
        }
        List<Long> without = view(past);
        List<String> with = new ArrayList<>(past);
        with.add(row);
        if (!view(with).equals(without)) {
            fail(row + " has changed something");
        }
        return this;
    }

    /** That all is as on another object. */
    Bench like(Bench other) {
        if (!view(past).equals(view(other.past))) {
            fail("not as if made by " + other.past);
        }
        return this;
    }

    /**
     * A call of which one number (% in the row) must stand within bounds: all that stands out of
     * them, near, far, or just like a good one in its lowest bytes, is refused, and nothing changes.
     */
    Bench bounds(String row, int least, int most, int refusal) {
        int[] odd = {least - 1, most + 1, LEAST, LEAST + 1, GREATEST, GREATEST - 1, -1, -2, -3, -4, -5, -9, -10,
            NO, 99, 100, 256 + least, 65536 + least, LEAST + least, -256 + least, 0x40000000 + least};
        for (int number : odd) {
            if (number < least || number > most) {
                same(row.replace("%", "" + number), refusal);
            }
        }
        return this;
    }

    private void fail(String what) {
        wrong++;
        if (wrong <= MOST_TOLD) {
            List<String> end = past.subList(Math.max(0, past.size() - 12), past.size());
            System.out.println("[" + sentence + "] " + what + " | behind " + end);
        }
    }

    private long call(String row) {
        calls++;
        if (calls > MOST_CALLS) {
            throw new IllegalStateException("this test asks too much: " + sentence);
        }
        return ask(x, row);
    }

    private static LeanedBars again(List<String> rows) {
        LeanedBars x = new LeanedBars();
        for (String row : rows) {
            ask(x, row);
        }
        if (rows.size() > MOST_CALLS - 250) {
            throw new IllegalStateException("no calls are left to look at it: " + sentence);
        }
        return x;
    }

    /** All that an object shows behind some calls: each part on an object of its own, as to look changes some. */
    private static List<Long> view(List<String> rows) {
        List<Long> seen = new ArrayList<>();
        viewTold(again(rows), seen);
        viewNow(again(rows), seen);
        for (int image = 0; image <= 1; image++) {
            LeanedBars back = again(rows);
            seen.add((long) back.back(image));
            viewNow(back, seen);
        }
        LeanedBars undone = again(rows);
        for (int i = 0; i <= 13; i++) {
            seen.add((long) undone.undo());
        }
        LeanedBars read = again(rows);
        seen.add((long) read.square());
        viewTold(read, seen);
        viewNow(read, seen);
        LeanedBars more = again(rows);
        seen.add((long) more.type(packed(" 1;"), 3));
        seen.add((long) more.square());
        viewTold(more, seen);
        return seen;
    }

    private static void viewTold(LeanedBars x, List<Long> seen) {
        for (int what = 0; what <= 5; what++) {
            seen.add((long) x.count(what));
        }
        for (int b = 0; b <= 5; b++) {
            seen.add((long) x.bar(b));
            for (int y = 0; y <= 9; y++) {
                seen.add((long) x.paint(b, y));
            }
        }
        for (int p = 0; p <= 2; p++) {
            seen.add((long) x.person(p));
        }
        for (int y = 0; y <= 9; y++) {
            seen.add((long) x.rain(y));
        }
        seen.add(x.trace());
    }

    private static void viewNow(LeanedBars x, List<Long> seen) {
        for (int i = 0; i <= 11; i++) {
            for (int what = 0; what <= 3; what++) {
                seen.add((long) x.held(i, what));
            }
        }
        for (int b = 0; b <= 5; b++) {
            seen.add((long) x.seen(b));
            for (int y = 0; y <= 9; y++) {
                seen.add((long) x.rust(b, y));
            }
        }
        for (int p = 0; p <= 2; p++) {
            seen.add((long) x.sure(p));
            seen.add((long) x.odds(p, -4, 0));
        }
        seen.add((long) x.fits());
        seen.add((long) x.scrape(1));
        seen.add((long) x.swaps());
        seen.add((long) x.count(3));
        seen.add((long) x.count(4));
    }

    private static long ask(LeanedBars x, String row) {
        String[] words = row.split(" ");
        long v = words.length > 1 ? Long.parseLong(words[1]) : 0;
        if (words[0].equals("type")) {
            return x.type(v, Integer.parseInt(words[2]));
        }
        int[] n = new int[4];
        for (int i = 1; i < words.length; i++) {
            n[i - 1] = Integer.parseInt(words[i]);
        }
        switch (words[0] + (words.length - 1)) {
            case "clear0": return x.clear();
            case "square0": return x.square();
            case "bar1": return x.bar(n[0]);
            case "person1": return x.person(n[0]);
            case "rain1": return x.rain(n[0]);
            case "paint2": return x.paint(n[0], n[1]);
            case "holds4": return x.holds(n[0], n[1], n[2], n[3]);
            case "undo0": return x.undo();
            case "held2": return x.held(n[0], n[1]);
            case "rust2": return x.rust(n[0], n[1]);
            case "saw2": return x.saw(n[0], n[1]);
            case "hide1": return x.hide(n[0]);
            case "seen1": return x.seen(n[0]);
            case "fits0": return x.fits();
            case "sure1": return x.sure(n[0]);
            case "odds3": return x.odds(n[0], n[1], n[2]);
            case "claim3": return x.claim(n[0], n[1], n[2]);
            case "saves3": return x.saves(n[0], n[1], n[2]);
            case "scrape1": return x.scrape(n[0]);
            case "swaps0": return x.swaps();
            case "rate2": return x.rate(n[0], n[1]);
            case "keep1": return x.keep(n[0]);
            case "back1": return x.back(n[0]);
            case "count1": return x.count(n[0]);
            case "trace0": return x.trace();
            default: throw new IllegalArgumentException("no such call: " + Arrays.toString(words));
        }
    }
}
