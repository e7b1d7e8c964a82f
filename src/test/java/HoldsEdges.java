/** The edges that the document names of promises 9 to 15: a test for each sentence. */
public final class HoldsEdges {
    private static final int BAD = Bench.BAD, STATE = Bench.STATE, FULL = Bench.FULL, NONE = Bench.NONE;
    private static final int LEAST = Bench.LEAST, GREATEST = Bench.GREATEST;
    private static final String SIX = "bar 1;bar 2;bar 3;bar 3;bar 2;bar 1;";
    private static final String THREE = "person 9;person 1;person 4;";

    public static void main(String[] args) {
        holdsWherePeopleAndBarsEnd();
        holdsOfYearsToNine();
        holdsOfOneToTenYears();
        holdsTwelveAtMost();
        holdsRefusedForTwoReasons();
        undoOfNone();
        undoTakesTheLatest();
        undoOfAllTwelve();
        undoBehindReading();
        heldOfNone();
        heldWhereHoldsEnd();
        heldTellsAll();
        heldOfWhatWasUndone();
        rustWhereBarsAndYearsEnd();
        rustOfRainAndMetal();
        rustNotWhereCovered();
        rustOfGripNotWhereWet();
        rustEachTimeHeHolds();
        rustToThatYear();
        rustTheGreatest();
        sawWhereBarsEnd();
        sawNumbers();
        sawToldAgain();
        hideOfNone();
        hideTellsWhatWasSeen();
        hideRefusedForTwoReasons();
        seenWhereBarsEnd();
        seenOrNone();
        seenIsGoneBehindReading();
        Bench.end();
    }

    private static Bench told(String text, String... rows) {
        return Bench.told(text, rows);
    }

    private static Bench withHolds(int n) {
        Bench x = told(SIX + THREE, "saw 2 40", "keep 1");
        for (int i = 0; i < n; i++) {
            x.due("holds " + i % 3 + " " + i % 6 + " " + i % 10 + " 1", i + 1);
        }
        return x;
    }

    // ---- promise 9

    private static void holdsWherePeopleAndBarsEnd() {
        Bench.sentence("9: a PERSON, a BAR: BAD");
        new Bench().bounds("holds % 0 0 1", 0, -1, BAD).bounds("holds 0 % 0 1", 0, -1, BAD);
        told("bar 1;").bounds("holds % 0 0 1", 0, -1, BAD);
        told("person 1;").bounds("holds 0 % 0 1", 0, -1, BAD);
        told("bar 1;person 1;").bounds("holds % 0 0 1", 0, 0, BAD).bounds("holds 0 % 0 1", 0, 0, BAD);
        told("bar 1;person 1;person 2;person 3;").bounds("holds % 0 0 1", 0, 2, BAD).bounds("holds 2 % 0 1", 0, 0, BAD);
        Bench x = told(SIX + THREE).bounds("holds % 5 9 1", 0, 2, BAD).bounds("holds 2 % 9 1", 0, 5, BAD);
        x.due("holds 0 0 0 10", 1).due("holds 2 5 9 1", 2).due("holds 2 0 0 1", 3).due("holds 0 5 0 1", 4);
        x.same("holds " + LEAST + " " + LEAST + " " + LEAST + " " + LEAST, BAD);
        x.same("holds " + GREATEST + " " + GREATEST + " " + GREATEST + " " + GREATEST, BAD);
    }

    private static void holdsOfYearsToNine() {
        Bench.sentence("9: n YEARS from one on (to 9 at most): BAD beyond YEAR 9, too");
        for (int from = 0; from <= 9; from++) {
            told(SIX + THREE).due("holds 1 3 " + from + " " + (10 - from), 1).due("held 0 2", from).due("held 0 3", 10 - from);
            told(SIX + THREE).due("holds 1 3 " + from + " 1", 1);
            Bench x = told(SIX + THREE, "holds 0 0 0 1");
            for (int n = 11 - from; n <= 11; n++) {
                x.same("holds 1 3 " + from + " " + n, BAD);
            }
        }
        told(SIX + THREE).bounds("holds 0 0 % 1", 0, 9, BAD).bounds("holds 0 0 % 10", 0, 0, BAD);
        told(SIX + THREE).same("holds 0 0 9 " + GREATEST, BAD).same("holds 0 0 " + GREATEST + " 1", BAD)
            .same("holds 0 0 " + GREATEST + " " + LEAST, BAD).same("holds 0 0 " + LEAST + " " + GREATEST, BAD)
            .same("holds 0 0 -1 10", BAD).same("holds 0 0 -1 2", BAD);
    }

    private static void holdsOfOneToTenYears() {
        Bench.sentence("9: n (1 .. 10)");
        for (int n = 1; n <= 10; n++) {
            told(SIX + THREE).due("holds 0 0 0 " + n, 1).due("held 0 3", n);
        }
        told(SIX + THREE).bounds("holds 0 0 0 %", 1, 10, BAD).bounds("holds 0 0 9 %", 1, 1, BAD);
        told(SIX + THREE, "holds 0 0 0 1").bounds("holds 0 0 5 %", 1, 5, BAD).due("count 3", 1);
    }

    private static void holdsTwelveAtMost() {
        Bench.sentence("9: HOLDS (12 at most): how many; FULL");
        withHolds(11).due("holds 0 0 0 10", 12).due("count 3", 12).due("held 11 3", 10);
        withHolds(12).same("holds 0 0 0 1", FULL).same("holds 2 5 9 1", FULL).same("holds 0 0 0 10", FULL)
            .due("count 3", 12).due("undo", 11).due("holds 1 1 1 1", 12).same("holds 1 1 1 1", FULL);
        withHolds(12).due("keep 0", 12).due("undo", 11).due("back 0", 12).same("holds 0 0 0 1", FULL).due("back 1", 0)
            .due("holds 0 0 0 1", 1);
        withHolds(12).types(SIX + THREE).takes("square").due("holds 0 0 0 1", 1);
    }

    private static void holdsRefusedForTwoReasons() {
        Bench.sentence("Refused, the first of these: BAD, STATE, FULL (holds)");
        withHolds(12).bounds("holds % 0 0 1", 0, 2, BAD).bounds("holds 0 % 0 1", 0, 5, BAD)
            .bounds("holds 0 0 % 1", 0, 9, BAD).bounds("holds 0 0 0 %", 1, 10, BAD).same("holds 0 0 9 2", BAD)
            .same("holds 0 0 1 10", BAD);
    }

    // ---- promise 10

    private static void undoOfNone() {
        Bench.sentence("10: STATE: none");
        new Bench().same("undo", STATE);
        told(SIX + THREE, "saw 0 7", "keep 0").same("undo", STATE);
        withHolds(1).due("undo", 0).same("undo", STATE).same("undo", STATE).due("holds 0 0 0 1", 1).due("undo", 0);
    }

    private static void undoTakesTheLatest() {
        Bench.sentence("10: UNDONE: the latest HOLDS that is told: how many HOLDS are left");
        for (int n = 1; n <= 12; n++) {
            withHolds(n).due("undo", n - 1).like(withHolds(n - 1));
        }
        withHolds(3).takes("undo").takes("holds 0 0 0 10").like(withHolds(2).takes("holds 0 0 0 10"));
        withHolds(3).takes("undo").takes("undo").like(withHolds(1));
        withHolds(3).takes("keep 0").takes("undo").takes("back 0").due("undo", 2).due("undo", 1).due("undo", 0);
    }

    private static void undoOfAllTwelve() {
        Bench.sentence("10: of all that can be told");
        Bench x = withHolds(12);
        for (int left = 11; left >= 0; left--) {
            x.due("undo", left).due("count 3", left);
        }
        x.same("undo", STATE).like(withHolds(0)).due("seen 2", 40);
    }

    private static void undoBehindReading() {
        Bench.sentence("10: Read anew, nothing can be UNDONE");
        withHolds(12).due("square", 0).same("undo", STATE);
        withHolds(2).types(SIX + THREE).takes("square").same("undo", STATE);
    }

    // ---- promise 11

    private static void heldOfNone() {
        Bench.sentence("11: BAD, where nothing is held");
        new Bench().bounds("held % 0", 0, -1, BAD).bounds("held 0 %", 0, -1, BAD);
        told(SIX + THREE).bounds("held % 0", 0, -1, BAD).bounds("held 0 %", 0, -1, BAD);
        withHolds(3).due("square", 0).bounds("held % 0", 0, -1, BAD);
    }

    private static void heldWhereHoldsEnd() {
        Bench.sentence("11: Of the i-th HOLDS: 0 .. 3. BAD");
        for (int n : new int[] {1, 2, 11, 12}) {
            withHolds(n).same("held 0 1", 0).same("held " + (n - 1) + " 1", (n - 1) % 6).same("held " + n + " 1", BAD);
        }
        withHolds(1).bounds("held % 0", 0, 0, BAD).bounds("held 0 %", 0, 3, BAD);
        withHolds(12).bounds("held % 3", 0, 11, BAD).bounds("held 11 %", 0, 3, BAD).same("held 12 4", BAD)
            .same("held " + LEAST + " " + GREATEST, BAD).same("held " + GREATEST + " " + LEAST, BAD);
    }

    private static void heldTellsAll() {
        Bench.sentence("11: 0 PERSON, 1 BAR, 2 from, 3 n");
        told(SIX + THREE).takes("holds 2 5 9 1").takes("holds 0 4 0 10").takes("holds 1 0 3 6")
            .same("held 0 0", 2).same("held 0 1", 5).same("held 0 2", 9).same("held 0 3", 1)
            .same("held 1 0", 0).same("held 1 1", 4).same("held 1 2", 0).same("held 1 3", 10)
            .same("held 2 0", 1).same("held 2 1", 0).same("held 2 2", 3).same("held 2 3", 6);
    }

    private static void heldOfWhatWasUndone() {
        Bench.sentence("11: BAD of HOLDS that were UNDONE");
        withHolds(12).takes("undo").same("held 11 0", BAD).same("held 10 0", 1).takes("undo").same("held 10 0", BAD);
        withHolds(1).takes("undo").same("held 0 0", BAD);
    }

    // ---- promise 12

    private static void rustWhereBarsAndYearsEnd() {
        Bench.sentence("12: RUST of a BAR in a YEAR. BAD");
        new Bench().bounds("rust % 0", 0, -1, BAD).bounds("rust 0 %", 0, -1, BAD);
        told("bar 1;").bounds("rust % 0", 0, 0, BAD).bounds("rust 0 %", 0, 9, BAD);
        withHolds(12).bounds("rust % 9", 0, 5, BAD).bounds("rust 5 %", 0, 9, BAD).same("rust 6 10", BAD)
            .same("rust " + LEAST + " " + GREATEST, BAD).same("rust " + GREATEST + " " + LEAST, BAD);
    }

    private static void rustOfRainAndMetal() {
        Bench.sentence("RAIN times METAL, if it is not COVERED");
        for (int rain = 0; rain <= 3; rain++) {
            for (int metal = 1; metal <= 3; metal++) {
                told("bar 1;bar " + metal + ";rain 0 " + rain + ";rain 9 " + rain + ";").due("rust 1 0", rain * metal)
                    .due("rust 1 8", (rain + 8) * metal).due("rust 1 9", (2 * rain + 8) * metal);
            }
        }
        told(SIX).due("rust 0 9", 10).due("rust 1 9", 20).due("rust 2 0", 3).due("rust 5 9", 10);
    }

    private static void rustNotWhereCovered() {
        Bench.sentence("not of RAIN, where it is COVERED (that YEAR and the N - 1 next)");
        for (int lasts = 1; lasts <= 5; lasts++) {
            Bench x = told("bar 2;bar 2;paint 1 3 " + lasts + ";");
            for (int y = 0; y <= 9; y++) {
                int covered = Math.max(0, Math.min(y - 2, lasts));
                x.due("rust 0 " + y, 2 * (y + 1)).due("rust 1 " + y, 2 * (y + 1 - covered));
            }
        }
        told("bar 3;paint 0 9 5;").due("rust 0 8", 27).due("rust 0 9", 27);
        told("bar 3;paint 0 0 1;").due("rust 0 0", 0).due("rust 0 1", 3);
        told("bar 3;paint 0 0 5;paint 0 5 5;").due("rust 0 9", 0);
    }

    private static void rustOfGripNotWhereWet() {
        Bench.sentence("the GRIP of each one who HOLDS it in that YEAR, if it is not WET");
        Bench x = told("bar 1;bar 1;person 7;rain 0 0;paint 0 2 3;paint 0 6 1;", "holds 0 0 0 10");
        int[] grips = {7, 14, 14, 21, 28, 35, 35, 42, 49, 56};
        int[] weathers = {0, 1, 1, 1, 1, 2, 2, 3, 4, 5};
        for (int y = 0; y <= 9; y++) {
            x.due("rust 0 " + y, grips[y] + weathers[y]).due("rust 1 " + y, y);
        }
        told("bar 1;person 9;paint 0 9 1;", "holds 0 0 9 1").due("rust 0 9", 9);
        told("bar 1;person 9;paint 0 8 2;", "holds 0 0 9 1").due("rust 0 9", 8 + 9);
        told("bar 1;person 9;paint 0 0 1;", "holds 0 0 0 1").due("rust 0 0", 0);
    }

    private static void rustEachTimeHeHolds() {
        Bench.sentence("each time he does so");
        Bench x = told("bar 1;person 5;");
        for (int n = 1; n <= 12; n++) {
            x.due("holds 0 0 4 2", n).due("rust 0 3", 4).due("rust 0 4", 5 + 5 * n).due("rust 0 9", 10 + 10 * n);
        }
        told("bar 1;person 5;person 2;", "holds 0 0 4 2", "holds 1 0 5 2").due("rust 0 4", 10).due("rust 0 5", 18)
            .due("rust 0 6", 21).due("rust 0 7", 22);
    }

    private static void rustToThatYear() {
        Bench.sentence("RUST in a YEAR: all of YEARS 0 to that, added");
        for (int from = 0; from <= 9; from++) {
            for (int n = 1; n <= 10 - from; n++) {
                Bench x = told("bar 1;person 9;", "holds 0 0 " + from + " " + n);
                for (int y = 0; y <= 9; y++) {
                    x.due("rust 0 " + y, y + 1 + 9 * Math.max(0, Math.min(y - from + 1, n)));
                }
            }
        }
    }

    private static void rustTheGreatest() {
        Bench.sentence("12: the least and the greatest RUST");
        StringBuilder rains = new StringBuilder();
        for (int y = 0; y <= 9; y++) {
            rains.append("rain ").append(y).append(" 3;");
        }
        Bench x = told("bar 3;person 9;" + rains);
        for (int i = 0; i < 12; i++) {
            x.takes("holds 0 0 0 10");
        }
        x.due("rust 0 0", 9 + 12 * 9).due("rust 0 9", 90 + 12 * 90);
        told("bar 3;person 9;" + rains.toString().replace(" 3;", " 0;")).due("rust 0 0", 0).due("rust 0 9", 0);
    }

    // ---- promises 13 to 15

    private static void sawWhereBarsEnd() {
        Bench.sentence("13: SEEN of a BAR. BAD");
        new Bench().bounds("saw % 0", 0, -1, BAD);
        told("person 1;").bounds("saw % 0", 0, -1, BAD);
        told("bar 1;").bounds("saw % 0", 0, 0, BAD).due("saw 0 5", NONE);
        withHolds(2).bounds("saw % 999", 0, 5, BAD).due("saw 5 5", NONE).due("saw 0 5", NONE);
    }

    private static void sawNumbers() {
        Bench.sentence("13: SEEN: the RUST (0 .. 999)");
        for (int rust : new int[] {0, 1, 9, 10, 99, 100, 127, 128, 255, 256, 998, 999}) {
            told("bar 1;bar 1;").due("saw 1 " + rust, NONE).due("seen 1", rust).due("seen 0", NONE).due("count 4", 1);
        }
        withHolds(2).bounds("saw 2 %", 0, 999, BAD).due("seen 2", 40).bounds("saw 0 %", 0, 999, BAD).due("seen 0", NONE)
            .same("saw 2 1000", BAD).same("saw 6 1000", BAD).same("saw " + LEAST + " " + LEAST, BAD)
            .same("saw " + GREATEST + " " + GREATEST, BAD);
    }

    private static void sawToldAgain() {
        Bench.sentence("13: told again: the later counts: what was SEEN ahead (NONE)");
        told("bar 1;bar 1;").due("saw 0 999", NONE).due("saw 0 0", 999).due("saw 0 0", 0).due("saw 0 7", 0)
            .due("seen 0", 7).due("count 4", 1).due("saw 1 8", NONE).due("saw 0 9", 7).due("count 4", 2)
            .due("hide 0", 9).due("saw 0 1", NONE);
        told("bar 1;bar 1;", "saw 0 3", "saw 0 30").like(told("bar 1;bar 1;", "saw 0 30"));
    }

    private static void hideOfNone() {
        Bench.sentence("14: STATE: nothing was; BAD");
        new Bench().bounds("hide %", 0, -1, BAD);
        told("bar 1;bar 1;", "saw 0 4").same("hide 1", STATE).due("hide 0", 4).same("hide 0", STATE);
        withHolds(3).same("hide 0", STATE).same("hide 5", STATE).bounds("hide %", 0, 5, BAD);
        told("bar 1;", "saw 0 4").bounds("hide %", 0, 0, BAD).types("bar 1;").takes("square").same("hide 0", STATE);
    }

    private static void hideTellsWhatWasSeen() {
        Bench.sentence("14: A BAR is not SEEN any more: what was SEEN");
        told("bar 1;", "saw 0 0").due("hide 0", 0).due("seen 0", NONE).due("count 4", 0);
        told("bar 1;", "saw 0 999").due("hide 0", 999).due("seen 0", NONE);
        told("bar 1;", "saw 0 999", "saw 0 1").due("hide 0", 1).same("hide 0", STATE);
        told(SIX + THREE, "saw 2 40", "saw 5 50", "hide 2").like(told(SIX + THREE, "saw 5 50"));
    }

    private static void hideRefusedForTwoReasons() {
        Bench.sentence("Refused, the first of these: BAD, STATE, FULL (hide: no such BAR, nothing was SEEN)");
        told(SIX).bounds("hide %", 0, 5, BAD);
        told("person 1;").bounds("hide %", 0, -1, BAD);
    }

    private static void seenWhereBarsEnd() {
        Bench.sentence("15: BAD");
        new Bench().bounds("seen %", 0, -1, BAD);
        told("person 1;").bounds("seen %", 0, -1, BAD);
        told("bar 1;").same("seen 0", NONE).bounds("seen %", 0, 0, BAD);
        withHolds(1).same("seen 0", NONE).same("seen 5", NONE).same("seen 2", 40).bounds("seen %", 0, 5, BAD);
    }

    private static void seenOrNone() {
        Bench.sentence("15: What was SEEN of a BAR; NONE");
        told("bar 1;bar 1;", "saw 1 0").same("seen 1", 0).same("seen 0", NONE).due("saw 1 999", 0).same("seen 1", 999)
            .due("hide 1", 999).same("seen 1", NONE);
        Bench x = told(SIX);
        for (int b = 0; b <= 5; b++) {
            x.due("saw " + b + " " + 111 * b, NONE);
        }
        for (int b = 0; b <= 5; b++) {
            x.due("seen " + b, 111 * b);
        }
        x.due("count 4", 6);
    }

    private static void seenIsGoneBehindReading() {
        Bench.sentence("15: Read anew, nothing SEEN");
        told(SIX, "saw 0 1", "saw 5 6").types(SIX).takes("square").due("seen 0", NONE).due("seen 5", NONE)
            .due("count 4", 0).due("saw 5 1", NONE);
        told("bar 1;", "saw 0 1").due("square", 0).types("bar 1;").takes("square").due("seen 0", NONE);
    }
}
