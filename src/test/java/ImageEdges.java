/** The edges that the document names of promises 23 to 27, and of the last call: a test for each sentence. */
public final class ImageEdges {
    private static final int BAD = Bench.BAD, STATE = Bench.STATE, NONE = Bench.NONE, NO = Bench.NO;
    private static final int LEAST = Bench.LEAST, GREATEST = Bench.GREATEST;
    private static final String SIX = "bar 1;bar 2;bar 3;bar 3;bar 2;bar 1;";
    private static final String THREE = "person 9;person 1;person 4;";

    public static void main(String[] args) {
        rateRefused();
        rateOfABar();
        rateOfARail();
        rateOfASpike();
        rateOfAGate();
        rateOfAFinial();
        rateOfANewOne();
        rateChangesTheTraceAlone();
        keepRefused();
        keepHowMany();
        keepTheLaterCounts();
        keepChangesNothingElse();
        backRefused();
        backOfNone();
        backBringsAll();
        backBringsNothingElse();
        backIsNoUndo();
        imagesAreTheirOwn();
        imagesAreGoneBehindReading();
        countRefused();
        countOfTheLeast();
        countOfTheGreatest();
        traceAtFirst();
        traceAddsEachOnce();
        traceGoesOn();
        theLastCall();
        Bench.end();
    }

    private static Bench told(String text, String... rows) {
        return Bench.told(text, rows);
    }

    private static String times(int n, String text) {
        return Bench.times(n, text);
    }

    /** One that keeps two images, and is now as neither. */
    private static Bench kept() {
        return told(SIX + THREE + "paint 1 2 3;", "holds 0 0 0 10", "saw 0 0", "keep 0", "holds 2 5 9 1", "saw 5 999", "saw 0 7",
            "keep 1", "undo", "holds 1 1 1 1", "hide 5", "saw 3 33", "rate 1 1");
    }

    // ---- promise 23

    private static void rateRefused() {
        Bench.sentence("23: NO: BAD (KINDS 0 .. 5, of a BAR)");
        new Bench().bounds("rate % 0", 0, -1, NO).bounds("rate 0 %", 0, -1, NO);
        told(THREE).bounds("rate 0 %", 0, -1, NO).bounds("rate 5 %", 0, -1, NO);
        told("bar 1;").bounds("rate % 0", 0, 5, NO).bounds("rate 0 %", 0, 0, NO).bounds("rate 5 %", 0, 0, NO);
        Bench x = kept().bounds("rate % 5", 0, 5, NO).due("trace", 11);
        for (int kind = 0; kind <= 5; kind++) {
            kept().bounds("rate " + kind + " %", 0, 5, NO);
        }
        x.same("rate 6 6", NO).same("rate -1 -1", NO).same("rate " + LEAST + " " + LEAST, NO)
            .same("rate " + GREATEST + " " + GREATEST, NO).due("trace", 11);
    }

    private static void rateOfABar() {
        Bench.sentence("BAR its METAL (1)");
        for (int metal = 1; metal <= 3; metal++) {
            told("bar " + metal + ";").due("trace", 0).due("rate 0 0", metal).due("trace", 1);
        }
        told(SIX).due("rate 0 5", 1).due("rate 0 3", 3).due("trace", 2);
    }

    private static void rateOfARail() {
        Bench.sentence("RAIL up, and in how many YEARS it is COVERED (10)");
        told("bar 3;").due("rate 1 0", 3).due("trace", 11);
        told("bar 1;bar 3;paint 1 9 5;").due("rate 1 0", 1).due("rate 1 1", 4).due("trace", 22);
        told("bar 3;paint 0 0 1;").due("rate 1 0", 4);
        told("bar 3;paint 0 0 5;paint 0 5 5;").due("rate 1 0", 13);
        told("bar 3;paint 0 3 5;paint 0 3 5;paint 0 5 5;").due("rate 1 0", 10);
    }

    private static void rateOfASpike() {
        Bench.sentence("SPIKE up less how many HOLDS are of it (100)");
        Bench x = told("bar 3;bar 1;person 1;person 2;").due("rate 2 0", 3).due("trace", 101);
        for (int n = 1; n <= 12; n++) {
            x.takes("holds " + n % 2 + " 0 3 1").due("rate 2 0", 3 - n).due("rate 2 1", 1);
        }
        x.due("undo", 11).due("rate 2 0", -8).due("trace", 101 * 26);
    }

    private static void rateOfAGate() {
        Bench.sentence("GATE twice up (1000)");
        told("bar 3;").due("rate 3 0", 6).due("trace", 1011);
        told("bar 3;paint 0 0 5;paint 0 5 5;").due("rate 3 0", 26).due("trace", 1011);
        told("bar 1;bar 1;paint 1 9 2;").due("rate 3 0", 2).due("rate 3 1", 4).due("trace", 2022);
    }

    private static void rateOfAFinial() {
        Bench.sentence("FINIAL up, and its number (10000)");
        Bench x = told(SIX + THREE, "holds 0 5 0 1", "holds 0 5 0 1");
        int[] rates = {1, 3, 5, 6, 6, 4};
        for (int b = 0; b <= 5; b++) {
            x.due("rate 4 " + b, rates[b]).due("trace", 10101 * (b + 1));
        }
    }

    private static void rateOfANewOne() {
        Bench.sentence("NEW ONE up, and its RUST in YEAR 9 by all HOLDS (100000)");
        told("bar 3;person 9;").due("rate 5 0", 33).due("trace", 100001).takes("holds 0 0 9 1").due("rate 5 0", 42)
            .takes("holds 0 0 0 10").due("rate 5 0", 132).due("undo", 1).due("rate 5 0", 42).due("trace", 400004);
        told("bar 1;rain 0 0;paint 0 1 5;paint 0 6 4;").due("rate 5 0", 1);
    }

    private static void rateChangesTheTraceAlone() {
        Bench.sentence("23: nothing but THE TRACE is changed");
        for (int kind = 0; kind <= 5; kind++) {
            Bench x = kept().takes("rate " + kind + " 1");
            x.due("count 3", 2).due("count 4", 2).due("held 1 0", 1).due("seen 0", 7).due("bar 1", 2).due("paint 1 2", 2);
            x.due("rust 1 9", 2 * 7 + 1).due("back 0", 1).due("back 1", 2);
        }
    }

    // ---- promise 24

    private static void keepRefused() {
        Bench.sentence("24: IMAGES 0, 1; BAD");
        new Bench().bounds("keep %", 0, 1, BAD);
        told(SIX + THREE).bounds("keep %", 0, 1, BAD).same("back 0", STATE).same("back 1", STATE);
        kept().bounds("keep %", 0, 1, BAD).due("back 0", 1).due("back 1", 2);
    }

    private static void keepHowMany() {
        Bench.sentence("24: An IMAGE is kept: how many HOLDS (none, 12)");
        new Bench().due("keep 0", 0).due("keep 1", 0).due("back 0", 0).due("back 1", 0);
        Bench x = told("bar 1;person 1;").due("keep 0", 0);
        for (int n = 1; n <= 12; n++) {
            x.takes("holds 0 0 0 1").due("keep 1", n);
        }
        x.due("undo", 11).due("keep 0", 11).due("back 1", 12).due("back 0", 11);
    }

    private static void keepTheLaterCounts() {
        Bench.sentence("24: kept again, the later counts");
        told(SIX + THREE, "holds 0 0 0 1", "saw 0 1", "keep 0", "undo", "hide 0", "saw 1 2", "keep 0", "holds 1 1 1 1")
            .due("back 0", 0).due("seen 0", NONE).due("seen 1", 2).due("count 4", 1).due("held 0 0", BAD);
    }

    private static void keepChangesNothingElse() {
        Bench.sentence("24: keep() leaves all but the IMAGE");
        kept().takes("keep 0").takes("back 0").like(kept().takes("keep 0"));
        kept().takes("keep 0").due("back 1", 2).due("seen 5", 999).due("held 1 1", 5);
        kept().takes("keep 1").due("back 0", 1).due("seen 0", 0).due("count 4", 1);
        kept().takes("keep 1").due("count 3", 2).due("seen 3", 33).due("seen 0", 7).due("trace", 11).due("undo", 1);
    }

    // ---- promise 25

    private static void backRefused() {
        Bench.sentence("25: BAD (ahead of STATE)");
        new Bench().bounds("back %", 0, 1, BAD);
        told(SIX + THREE, "holds 0 0 0 1", "saw 0 1").bounds("back %", 0, 1, BAD);
        kept().bounds("back %", 0, 1, BAD);
    }

    private static void backOfNone() {
        Bench.sentence("25: STATE: none was kept");
        new Bench().same("back 0", STATE).same("back 1", STATE);
        Bench x = told(SIX + THREE, "holds 0 0 0 1", "saw 0 1").same("back 0", STATE).same("back 1", STATE);
        x.takes("keep 1").same("back 0", STATE).due("back 1", 1).takes("keep 0").due("back 0", 1);
        told(SIX + THREE, "keep 0", "holds 0 0 0 1").same("back 1", STATE).due("back 0", 0);
    }

    private static void backBringsAll() {
        Bench.sentence("25: All of that becomes as an IMAGE has it: how many HOLDS");
        Bench first = kept().due("back 0", 1);
        first.due("held 0 0", 0).due("held 0 1", 0).due("held 0 2", 0).due("held 0 3", 10).due("held 1 0", BAD);
        first.due("seen 0", 0).due("seen 3", NONE).due("seen 5", NONE).due("count 4", 1).due("rust 0 9", 100);
        Bench second = kept().due("back 1", 2);
        second.due("held 1 0", 2).due("held 1 1", 5).due("held 1 2", 9).due("held 1 3", 1).due("held 2 0", BAD);
        second.due("seen 0", 7).due("seen 3", NONE).due("seen 5", 999).due("count 4", 2).due("rust 5 9", 14);
        told(SIX + THREE, "keep 0", "holds 0 0 0 10", "saw 0 1", "back 0").like(told(SIX + THREE, "keep 0"));
    }

    private static void backBringsNothingElse() {
        Bench.sentence("IMAGES keep NOW (HOLDS, what was SEEN); nothing else");
        Bench x = kept().types("bar 1;").due("rate 5 0", 1 + 10 + 90).due("back 0", 1);
        x.due("count 5", 6).due("trace", 11 + 100001).due("bar 1", 2).due("person 2", 4).due("paint 1 4", 1);
        x.due("clear", 6).due("back 1", 2).due("count 5", 0).due("trace", 11 + 100001);
    }

    private static void backIsNoUndo() {
        Bench.sentence("behind back(), undo() takes the latest HOLDS of those; THE TRACE goes on");
        kept().takes("back 1").due("undo", 1).due("undo", 0).same("undo", STATE).due("back 1", 2).due("undo", 1)
            .due("back 0", 1).due("undo", 0).same("undo", STATE).due("trace", 11);
    }

    private static void imagesAreTheirOwn() {
        Bench.sentence("what is told behind keep() and back() changes no IMAGE");
        Bench x = kept();
        for (int again = 0; again < 2; again++) {
            x.due("back 0", 1).takes("undo").takes("holds 2 4 5 5").takes("holds 1 1 1 1").takes("saw 0 500").takes("saw 4 4");
            x.due("back 1", 2).takes("undo").takes("undo").takes("hide 0").takes("hide 5").takes("saw 1 1");
        }
        x.due("back 0", 1).due("held 0 1", 0).due("held 0 3", 10).due("seen 0", 0).due("count 4", 1);
        x.due("back 1", 2).due("held 1 1", 5).due("seen 0", 7).due("seen 5", 999).due("count 4", 2);
    }

    private static void imagesAreGoneBehindReading() {
        Bench.sentence("Read anew, IMAGES are gone");
        kept().due("square", 0).same("back 0", STATE).same("back 1", STATE);
        kept().types(SIX + THREE).takes("square").same("back 0", STATE).same("back 1", STATE).takes("keep 1")
            .same("back 0", STATE).due("back 1", 0);
        kept().types("x").same("square", -10).due("back 0", 1).due("back 1", 2);
    }

    // ---- promise 26

    private static void countRefused() {
        Bench.sentence("26: 0 .. 5. BAD");
        new Bench().bounds("count %", 0, 5, BAD);
        kept().types("bar").bounds("count %", 0, 5, BAD);
    }

    private static void dueCounts(Bench x, int... counts) {
        for (int what = 0; what <= 5; what++) {
            x.same("count " + what, counts[what]);
        }
    }

    private static void countOfTheLeast() {
        Bench.sentence("26: where there is nothing, and one of each");
        dueCounts(new Bench(), 0, 0, 0, 0, 0, 0);
        dueCounts(told("bar 1;person 1;paint 0 0 1;", "holds 0 0 0 1", "saw 0 0").types(" "), 1, 1, 1, 1, 1, 1);
        dueCounts(told("bar 1;"), 1, 0, 0, 0, 0, 0);
        dueCounts(told("person 1;"), 0, 1, 0, 0, 0, 0);
        dueCounts(told("rain 0 0;"), 0, 0, 0, 0, 0, 0);
        dueCounts(kept().due("square", 0), 0, 0, 0, 0, 0, 0);
    }

    private static void countOfTheGreatest() {
        Bench.sentence("26: where all is full");
        Bench x = told(SIX + THREE + times(8, "paint 0 0 1;"));
        for (int i = 0; i < 12; i++) {
            x.takes("holds 0 0 0 1");
        }
        for (int b = 0; b <= 5; b++) {
            x.takes("saw " + b + " 999");
        }
        x.types(times(300, "z"));
        dueCounts(x, 6, 3, 8, 12, 6, 300);
        x.takes("hide 3").takes("undo").takes("clear");
        dueCounts(x, 6, 3, 8, 11, 5, 0);
    }

    // ---- promise 27

    private static void traceAtFirst() {
        Bench.sentence("THE TRACE, 0 at first");
        new Bench().same("trace", 0);
        told(SIX + THREE, "holds 0 0 0 1", "saw 0 1", "keep 0", "undo", "back 0").due("fits", 0).due("rust 0 9", 19)
            .same("trace", 0);
    }

    private static void traceAddsEachOnce() {
        Bench.sentence("numbers in brackets are added to THE TRACE, as often as rate() asks that body: each once");
        int[] marks = {1, 11, 101, 1011, 10101, 100001};
        Bench x = told(SIX);
        long sum = 0;
        for (int again = 0; again < 3; again++) {
            for (int kind = 0; kind <= 5; kind++) {
                sum += marks[kind];
                x.takes("rate " + kind + " " + again).same("trace", sum);
            }
        }
        x.same("rate 6 0", NO).same("rate 5 6", NO).same("trace", sum);
    }

    private static void traceGoesOn() {
        Bench.sentence("THE TRACE goes on, read anew, as behind undo(), back()");
        Bench x = told(SIX + THREE, "rate 3 0", "keep 0", "holds 0 0 0 1").due("undo", 0).due("trace", 1011);
        x.due("back 0", 0).due("trace", 1011).types("bar 1;").due("square", 1).due("trace", 1011).takes("rate 0 0")
            .due("trace", 1012).due("square", 0).due("trace", 1012).types("x").due("square", -10).due("clear", 1)
            .due("trace", 1012);
    }

    private static void theLastCall() {
        Bench.sentence("An object is used for at most 512 calls: the 512th is answered, too");
        Bench x = told("bar 3;person 1;");
        for (int i = 0; i < 500; i++) {
            x.takes("rate 5 0");
        }
        x.takes("holds 0 0 0 1").takes("saw 0 31").takes("keep 1").takes("undo").takes("rate 1 0").takes("rate 1 0");
        x.due("back 1", 1).due("fits", 1).due("trace", 500L * 100001 + 22);
    }
}
