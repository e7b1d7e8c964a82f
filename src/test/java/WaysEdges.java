/** The edges that the document names of promises 16 to 22: a test for each sentence. */
public final class WaysEdges {
    private static final int BAD = Bench.BAD, NONE = Bench.NONE, HELD_NONE = -4, NOT_SURE = -5;
    private static final int LEAST = Bench.LEAST, GREATEST = Bench.GREATEST;
    private static final String SIX = "bar 1;bar 2;bar 3;bar 3;bar 2;bar 1;";
    private static final String THREE = "person 9;person 1;person 4;";
    private static final String[] HOLDS = {"holds 0 0 0 10", "holds 1 1 3 2", "holds 0 1 9 1", "holds 1 0 0 1"};

    public static void main(String[] args) {
        fitsOfNothing();
        fitsWhereNothingWasSeen();
        fitsFromNoneToTenWinters();
        fitsOfWintersFromYearNull();
        fitsOfTheLeastAndTheGreatestRust();
        fitsWhereAllWereSeen();
        sureWherePeopleEnd();
        sureOfNone();
        sureOfABar();
        notSure();
        sureWithoutWays();
        oddsRefused();
        oddsOfNone();
        oddsInLeastTerms();
        oddsNullByOne();
        claimRefused();
        claimOfOneToTenWinters();
        claimWithoutWays();
        savesRefused();
        savesTheNearest();
        savesOfTwoTheLess();
        savesNone();
        scrapeRefused();
        scrapeNone();
        scrapeTheFirstOfSeveral();
        scrapeTheFewestAtWorst();
        swapsOfNothing();
        swapsFewest();
        swapsOthersStay();
        swapsNone();
        swapsAskHoldsOfYearNine();
        wintersThatLeaveNoRust();
        wintersThatLeaveTheSameRust();
        nothingIsChanged();
        holdsAreNotAsked();
        Bench.end();
    }

    private static Bench told(String text, String... rows) {
        return Bench.told(text, rows);
    }

    private static String times(int n, String text) {
        return Bench.times(n, text);
    }

    // ---- promise 16

    private static void fitsOfNothing() {
        Bench.sentence("16: FITS, where nobody, no BARS were told");
        new Bench().same("fits", 1);
        for (int people = 1; people <= 3; people++) {
            told(times(people, "person 9;")).same("fits", 1);
        }
        told(SIX).same("fits", 1).due("saw 0 10", NONE).same("fits", 1).due("saw 0 11", 10).same("fits", 0)
            .due("saw 0 9", 11).same("fits", 0);
    }

    private static void fitsWhereNothingWasSeen() {
        Bench.sentence("16: each of the PEOPLE either that he held none, or which BAR he held and how many WINTERS");
        for (int bars = 0; bars <= 6; bars++) {
            for (int people = 0; people <= 3; people++) {
                int ways = 1;
                for (int p = 0; p < people; p++) {
                    ways *= 1 + 10 * bars;
                }
                told(times(bars, "bar 2;") + times(people, "person 3;")).same("fits", ways);
            }
        }
        told(times(6, "bar 3;") + times(3, "person 9;")).same("fits", 226981);
    }

    private static void fitsFromNoneToTenWinters() {
        Bench.sentence("16: WINTERS (1 .. 10), so that each BAR that was SEEN has just that RUST");
        for (int grip = 1; grip <= 9; grip++) {
            Bench x = told("bar 1;person " + grip + ";");
            for (int rust = 0; rust <= 110; rust++) {
                boolean is = rust >= 10 && (rust - 10) % grip == 0 && (rust - 10) / grip <= 10;
                x.takes("saw 0 " + rust).due("fits", is ? 1 : 0);
            }
            x.takes("saw 0 999").due("fits", 0);
        }
    }

    private static void fitsOfWintersFromYearNull() {
        Bench.sentence("16: WINTERS of YEARS 0, 1, ..");
        for (int wet = 0; wet <= 9; wet++) {
            Bench x = told("bar 1;person 9;paint 0 " + wet + " 1;");
            for (int dry = 0; dry <= 10; dry++) {
                int rows = (dry < 10 ? 1 : 0) + (dry == wet ? 1 : 0);
                x.takes("saw 0 " + (9 + 9 * dry)).due("fits", rows);
            }
        }
    }

    private static void fitsOfTheLeastAndTheGreatestRust() {
        Bench.sentence("16: of the least and the greatest RUST that a WAY leaves, and just beyond both");
        Bench x = told("bar 3;person 9;person 9;person 9;");
        int[] rusts = {0, 29, 30, 31, 39, 290, 291, 299, 300, 301, 309, 998, 999};
        int[] fits = {0, 0, 1, 0, 3, 0, 3, 0, 1, 0, 0, 0, 0};
        for (int i = 0; i < rusts.length; i++) {
            x.takes("saw 0 " + rusts[i]).same("fits", fits[i]);
        }
        Bench dry = told("bar 3;person 1;rain 0 0;paint 0 1 5;paint 0 6 5;").takes("saw 0 0");
        dry.same("fits", 1).takes("saw 0 1").same("fits", 2).takes("saw 0 8").same("fits", 1).takes("saw 0 9").same("fits", 0);
    }

    private static void fitsWhereAllWereSeen() {
        Bench.sentence("16: each BAR that was SEEN");
        Bench x = told(SIX + THREE, "saw 0 10", "saw 1 20", "saw 2 30", "saw 3 30", "saw 4 20").due("fits", 1331);
        x.takes("saw 5 10").same("fits", 1).takes("saw 5 11").same("fits", 1).takes("saw 4 24").same("fits", 1);
        // 1 can be of the GRIP of 1 alone: not on two BARS
        x.takes("saw 3 39").same("fits", 1).takes("saw 2 31").same("fits", 0).takes("hide 5").same("fits", 1);
        // whoever of the three is not needed on bars 3, 4 holds none, or bar 2, or bar 5
        x.takes("hide 2").same("fits", 63);
    }

    // ---- promise 17

    private static void sureWherePeopleEnd() {
        Bench.sentence("17: BAD (ahead of NONE)");
        new Bench().bounds("sure %", 0, -1, BAD);
        told(SIX).bounds("sure %", 0, -1, BAD);
        told("bar 1;person 1;").bounds("sure %", 0, 0, BAD);
        told(SIX + THREE).same("sure 0", NOT_SURE).same("sure 2", NOT_SURE).bounds("sure %", 0, 2, BAD);
        told(SIX + THREE, "saw 0 0").same("sure 0", NONE).same("sure 2", NONE).bounds("sure %", 0, 2, BAD);
    }

    private static void sureOfNone() {
        Bench.sentence("17: -4: in all he held none");
        told(THREE).same("sure 0", HELD_NONE).same("sure 1", HELD_NONE).same("sure 2", HELD_NONE);
        told("bar 1;person 5;", "saw 0 10").same("sure 0", HELD_NONE);
        told("bar 1;person 9;person 1;", "saw 0 11").same("sure 0", HELD_NONE).same("sure 1", 0);
    }

    private static void sureOfABar() {
        Bench.sentence("17: the BAR that he held in all WAYS");
        for (int b = 0; b <= 5; b++) {
            told(times(6, "bar 1;") + "person 9;person 9;person 9;", "saw " + b + " 280").same("sure 0", b)
                .same("sure 1", b).same("sure 2", b);
        }
        told("bar 1;person 1;person 1;", "saw 0 29").same("sure 0", 0).same("sure 1", 0).takes("saw 0 20")
            .same("sure 0", NOT_SURE).takes("saw 0 21").same("sure 0", 0);
    }

    private static void notSure() {
        Bench.sentence("17: -5: it is not sure");
        told("bar 1;person 1;").same("sure 0", NOT_SURE);
        told("bar 1;bar 1;person 1;").same("sure 0", NOT_SURE);
        told("bar 1;bar 1;person 1;person 1;", "saw 0 11", "saw 1 12").same("fits", 2).same("sure 0", NOT_SURE)
            .same("sure 1", NOT_SURE);
        told("bar 1;person 1;paint 0 0 1;", "saw 0 9").same("fits", 2).same("sure 0", NOT_SURE);
    }

    private static void sureWithoutWays() {
        Bench.sentence("17: NONE: there are no WAYS");
        told("bar 1;person 2;", "saw 0 9").same("sure 0", NONE).takes("saw 0 11").same("sure 0", NONE)
            .takes("saw 0 31").same("sure 0", NONE).takes("saw 0 30").same("sure 0", 0).takes("saw 0 999").same("sure 0", NONE)
            .takes("hide 0").same("sure 0", NOT_SURE);
    }

    // ---- promise 18

    private static void oddsRefused() {
        Bench.sentence("18: BAD (b = -4: none)");
        new Bench().bounds("odds % -4 0", 0, -1, BAD);
        told("bar 1;").bounds("odds % 0 0", 0, -1, BAD).bounds("odds % -4 1", 0, -1, BAD);
        told("person 1;").same("odds 0 -4 0", 1).same("odds 0 -4 1", 1).same("odds 0 0 0", BAD).same("odds 0 0 1", BAD);
        for (String seen : new String[] {"saw 5 10", "saw 5 0"}) {
            Bench x = told(SIX + THREE, seen);
            x.bounds("odds % 0 0", 0, 2, BAD).bounds("odds % -4 1", 0, 2, BAD).bounds("odds 2 5 %", 0, 1, BAD)
                .bounds("odds 0 -4 %", 0, 1, BAD);
            for (int b : new int[] {LEAST, -1000000, -10, -9, -6, -5, -3, -2, -1, 6, 7, 252, 255, 256, 65536, GREATEST}) {
                x.same("odds 0 " + b + " 0", BAD).same("odds 0 " + b + " 1", BAD);
            }
            x.same("odds 3 6 2", BAD).same("odds -1 -1 -1", BAD).same("odds -4 -4 0", BAD);
        }
    }

    private static void oddsOfNone() {
        Bench.sentence("18: ODDS of a PERSON and a BAR (-4: none)");
        told("bar 1;person 5;").same("odds 0 0 0", 10).same("odds 0 0 1", 11).same("odds 0 -4 0", 1).same("odds 0 -4 1", 11);
        told("bar 1;person 5;", "saw 0 10").same("odds 0 -4 0", 1).same("odds 0 -4 1", 1).same("odds 0 0 0", 0);
        told("bar 1;person 5;", "saw 0 15").same("odds 0 -4 0", 0).same("odds 0 -4 1", 1).same("odds 0 0 0", 1)
            .same("odds 0 0 1", 1);
        told(SIX + THREE).same("odds 2 5 0", 10).same("odds 2 5 1", 61).same("odds 2 -4 0", 1).same("odds 2 -4 1", 61);
    }

    private static void oddsInLeastTerms() {
        Bench.sentence("18: a fraction, in least terms");
        Bench x = told("bar 1;bar 1;person 1;person 1;");
        x.due("odds 0 0 0", 10).due("odds 0 0 1", 21).due("odds 0 -4 1", 21).takes("saw 0 10");
        x.due("odds 0 1 0", 10).due("odds 0 1 1", 11).due("odds 0 -4 0", 1).due("odds 0 -4 1", 11).takes("saw 1 15");
        // (5, none), (none, 5), and 1 + 4 to 4 + 1
        x.due("fits", 6).due("odds 0 1 0", 5).due("odds 0 1 1", 6).due("odds 0 -4 0", 1).due("odds 0 -4 1", 6);
        x.takes("saw 0 14").takes("hide 1");
        // bar 0: (4, none), (none, 4), and who is left over none or bar 1; or 1 + 3, 2 + 2, 3 + 1
        x.due("fits", 25).due("odds 0 0 0", 14).due("odds 0 0 1", 25).due("odds 0 1 0", 2).due("odds 0 1 1", 5);
        x.due("odds 0 -4 0", 1).due("odds 0 -4 1", 25);
    }

    private static void oddsNullByOne() {
        Bench.sentence("18: 0 by 1: there are none");
        told("bar 1;bar 1;person 5;", "saw 0 10").same("odds 0 0 0", 0).same("odds 0 0 1", 1);
        Bench x = told(SIX + THREE, "saw 5 999");
        for (int b = 0; b <= 5; b++) {
            x.same("odds 1 " + b + " 0", 0).same("odds 1 " + b + " 1", 1);
        }
        x.same("odds 1 -4 0", 0).same("odds 1 -4 1", 1);
    }

    // ---- promise 19

    private static void claimRefused() {
        Bench.sentence("19: BAD (w 1 .. 10)");
        new Bench().bounds("claim % 0 1", 0, -1, BAD);
        told("bar 1;").bounds("claim % 0 1", 0, -1, BAD);
        told("person 1;").bounds("claim 0 % 1", 0, -1, BAD);
        for (String seen : new String[] {"saw 5 10", "saw 5 0"}) {
            told(SIX + THREE, seen).bounds("claim % 5 1", 0, 2, BAD).bounds("claim 2 % 10", 0, 5, BAD)
                .bounds("claim 0 0 %", 1, 10, BAD).same("claim 3 6 11", BAD).same("claim -1 -1 0", BAD);
        }
    }

    private static void claimOfOneToTenWinters() {
        Bench.sentence("19: CLAIM: 1, if it is so in some WAY; else 0");
        for (int held = 1; held <= 10; held++) {
            Bench x = told("bar 1;bar 1;person 3;person 9;", "saw 1 " + (10 + 3 * held));
            for (int w = 1; w <= 10; w++) {
                boolean byBoth = held > w && (held - w) % 3 == 0;
                x.due("claim 0 1 " + w, held == w || byBoth ? 1 : 0);
                x.due("claim 1 1 " + w, held >= 3 * w ? 1 : 0);
                x.due("claim 1 0 " + w, 1);
            }
        }
        told(SIX + THREE).same("claim 0 0 1", 1).same("claim 2 5 10", 1);
        told(SIX + THREE, "saw 5 10").same("claim 2 5 10", 0).same("claim 2 4 10", 1);
    }

    private static void claimWithoutWays() {
        Bench.sentence("19: 0, where there are no WAYS");
        told(SIX + THREE, "saw 5 0").same("claim 0 0 1", 0).same("claim 2 5 10", 0).same("claim 2 4 10", 0);
        told("bar 1;bar 1;person 1;", "saw 0 15", "saw 1 11").same("claim 0 0 5", 0).same("claim 0 1 1", 0);
    }

    // ---- promise 20

    private static void savesRefused() {
        Bench.sentence("20: BAD (as claim())");
        new Bench().bounds("saves % 0 1", 0, -1, BAD);
        told("bar 1;").bounds("saves % 0 1", 0, -1, BAD);
        told("person 1;").bounds("saves 0 % 1", 0, -1, BAD);
        for (String seen : new String[] {"saw 5 10", "saw 5 0"}) {
            told(SIX + THREE, seen).bounds("saves % 5 1", 0, 2, BAD).bounds("saves 2 % 10", 0, 5, BAD)
                .bounds("saves 0 0 %", 1, 10, BAD).same("saves 3 6 11", BAD).same("saves -1 -1 0", BAD);
        }
    }

    private static void savesTheNearest() {
        Bench.sentence("20: the number of WINTERS (1 .. 10) nearest to w with which his CLAIM to that BAR is so");
        for (int held = 1; held <= 10; held++) {
            Bench x = told("bar 1;person 7;", "saw 0 " + (10 + 7 * held));
            for (int w = 1; w <= 10; w++) {
                x.due("saves 0 0 " + w, held);
            }
        }
        Bench free = told("bar 1;person 7;");
        // ten WINTERS of the first, or one of each
        Bench ends = told("bar 1;person 1;person 9;", "saw 0 20");
        for (int w = 1; w <= 10; w++) {
            free.due("saves 0 0 " + w, w);
            ends.due("saves 0 0 " + w, w <= 5 ? 1 : 10);
        }
    }

    private static void savesOfTwoTheLess() {
        Bench.sentence("20: of two the less");
        Bench two = told("bar 1;person 1;person 8;", "saw 0 19");
        int[] nearest = {1, 1, 1, 1, 1, 9, 9, 9, 9, 9};
        Bench even = told("bar 1;person 1;person 2;", "saw 0 20");
        int[] less = {2, 2, 2, 4, 4, 6, 6, 8, 8, 10};
        for (int w = 1; w <= 10; w++) {
            two.due("saves 0 0 " + w, nearest[w - 1]);
            even.due("saves 0 0 " + w, less[w - 1]);
        }
    }

    private static void savesNone() {
        Bench.sentence("20: NONE");
        told("bar 1;bar 1;person 7;", "saw 0 10").same("saves 0 0 1", NONE).same("saves 0 0 10", NONE).same("saves 0 1 10", 10);
        told(SIX + THREE, "saw 5 0").same("saves 0 0 1", NONE).same("saves 2 5 10", NONE).same("saves 1 4 5", NONE);
    }

    // ---- promise 21

    private static void scrapeRefused() {
        Bench.sentence("21: which (what = 0), how many (1); BAD (ahead of NONE)");
        new Bench().bounds("scrape %", 0, 1, BAD);
        told(SIX + THREE).bounds("scrape %", 0, 1, BAD);
        told("bar 1;person 1;", "saw 0 10").bounds("scrape %", 0, 1, BAD);
        told(SIX + THREE, "saw 0 0").bounds("scrape %", 0, 1, BAD);
    }

    private static void scrapeNone() {
        Bench.sentence("21: NONE: all were SEEN, or there are no WAYS");
        new Bench().same("scrape 0", NONE).same("scrape 1", NONE);
        told(THREE).same("scrape 0", NONE).same("scrape 1", NONE);
        told("bar 1;person 1;", "saw 0 10").same("scrape 0", NONE).same("scrape 1", NONE).takes("hide 0")
            .same("scrape 0", 0).same("scrape 1", 1);
        told(SIX + THREE, "saw 0 0").same("scrape 0", NONE).same("scrape 1", NONE);
        told(SIX, "saw 0 10", "saw 1 20", "saw 2 30", "saw 3 30", "saw 4 20").same("scrape 0", 5).same("scrape 1", 1)
            .takes("saw 5 10").same("scrape 0", NONE).same("scrape 1", NONE).takes("hide 0").same("scrape 0", 0)
            .takes("saw 5 11").same("scrape 0", NONE).same("scrape 1", NONE);
    }

    private static void scrapeTheFirstOfSeveral() {
        Bench.sentence("21: BARS that were not SEEN, of several the first");
        for (int people = 0; people <= 1; people++) {
            Bench x = told(times(6, "bar 1;") + times(people, "person 1;"));
            for (int b = 0; b <= 5; b++) {
                int left = people == 0 ? 1 : 1 + 10 * (5 - b);
                x.due("scrape 0", b).due("scrape 1", left).takes("saw " + b + " 10");
            }
            x.due("scrape 0", NONE);
        }
    }

    private static void scrapeTheFewestAtWorst() {
        Bench.sentence("21: that of which the RUST would leave the fewest WAYS at worst");
        told("bar 1;person 1;").same("scrape 0", 0).same("scrape 1", 1);
        // bar 0 is not held in 11 of 21 WAYS, and one WINTER leaves as much; bar 1 in 11
        told("bar 1;bar 1;person 1;paint 0 0 1;").same("scrape 0", 1).same("scrape 1", 11);
        told("bar 1;bar 1;person 1;paint 1 0 1;").same("scrape 0", 0).same("scrape 1", 11);
        told("bar 1;bar 1;bar 1;person 1;paint 0 0 1;paint 2 0 1;").same("scrape 0", 1).same("scrape 1", 21);
        // none to ten WINTERS each: ten together are had in 11 WAYS
        told("bar 1;person 1;person 1;").same("scrape 0", 0).same("scrape 1", 11);
        told("bar 1;person 9;paint 0 4 1;paint 0 5 1;paint 0 6 1;").same("scrape 1", 4);
    }

    // ---- promise 22

    private static void swapsOfNothing() {
        Bench.sentence("22: where nothing is to be exchanged");
        new Bench().same("swaps", 0);
        told(THREE).same("swaps", 0);
        told(SIX + THREE).same("swaps", 0);
        told(SIX, "saw 0 10").same("swaps", 0);
        told(SIX, "saw 0 10", "saw 1 20", "saw 2 30", "saw 3 30", "saw 4 20", "saw 5 10").same("swaps", 0);
    }

    private static Bench differing() {
        // RUST in YEAR 9: 10, 11, 12, 13, 14, 15
        return told(times(6, "bar 1;") + "person 1;", "holds 0 1 0 1", "holds 0 2 0 2", "holds 0 3 0 3", "holds 0 4 0 4",
            "holds 0 5 0 5");
    }

    private static Bench seen(Bench x, int... rusts) {
        for (int b = 0; b < rusts.length; b++) {
            if (rusts[b] != NONE) {
                x.takes("saw " + b + " " + rusts[b]);
            }
        }
        return x;
    }

    private static void swapsFewest() {
        Bench.sentence("22: the fewest exchanges of two BARS each (0 .. 5)");
        seen(differing(), 11, 10, 12, 13, 14, 15).same("swaps", 1);
        seen(differing(), 15, 11, 12, 13, 14, 10).same("swaps", 1);
        seen(differing(), 11, 12, 10, 13, 14, 15).same("swaps", 2);
        seen(differing(), 15, 14, 13, 12, 11, 10).same("swaps", 3);
        seen(differing(), 13, 14, 15, 10, 11, 12).same("swaps", 3);
        seen(differing(), 12, 13, 14, 15, 10, 11).same("swaps", 4);
        seen(differing(), 11, 12, 13, 14, 15, 10).same("swaps", 5);
        seen(differing(), 15, 10, 11, 12, 13, 14).same("swaps", 5);
        // RUST 10, 20, 30, 30, 20, 10: more cycles, fewer exchanges
        seen(told(SIX), 20, 10, 30, 30, 10, 20).same("swaps", 2);
        seen(told(SIX), 20, 30, 10, 10, 30, 20).same("swaps", 4);
        seen(told(SIX), 30, 20, 10, 10, 20, 30).same("swaps", 2);
        // of equal RUSTS not just any one will do
        String pairs = "bar 1;bar 1;bar 2;bar 2;bar 3;bar 3;";
        seen(told(pairs), 20, 30, 30, 10, 10, 20).same("swaps", 3);
        seen(told(pairs), 30, 20, 30, 10, 20, 10).same("swaps", 3);
        seen(told(pairs), 20, 30, 10, 30, 10, 20).same("swaps", 3);
        seen(told(pairs), 10, 20, 30, 20, 10, 30).same("swaps", 2);
        seen(told(pairs), 20, 20, 30, 30, 10, 10).same("swaps", 4);
    }

    private static void swapsOthersStay() {
        Bench.sentence("22: all that were SEEN; the others stay");
        seen(differing(), 11).same("swaps", NONE);
        seen(differing(), 11, 10).same("swaps", 1);
        seen(differing(), 11, NONE, 12).same("swaps", NONE);
        seen(differing(), 12, NONE, 10).same("swaps", 1);
        seen(differing(), 15, NONE, NONE, NONE, NONE, 10).same("swaps", 1).takes("hide 5").same("swaps", NONE);
        seen(differing(), NONE, NONE, NONE, NONE, NONE, 10).same("swaps", NONE).takes("saw 5 15").same("swaps", 0);
    }

    private static void swapsNone() {
        Bench.sentence("22: NONE");
        seen(differing(), 10, 11, 12, 13, 14, 16).same("swaps", NONE);
        seen(differing(), 10, 11, 12, 13, 14, 14).same("swaps", NONE);
        seen(differing(), 9, 11, 12, 13, 14, 15).same("swaps", NONE);
        seen(differing(), 10, 10, 12, 13, 14, 15).same("swaps", NONE);
        seen(told(SIX), 10, 20, 30, 20, 10, 10).same("swaps", NONE);
        told("bar 1;", "saw 0 0").same("swaps", NONE).takes("saw 0 999").same("swaps", NONE).takes("saw 0 10").same("swaps", 0);
    }

    private static void swapsAskHoldsOfYearNine() {
        Bench.sentence("22: the RUST of YEAR 9 by all HOLDS");
        Bench x = told("bar 1;bar 1;person 3;", "saw 0 10", "saw 1 13").same("swaps", NONE);
        x.takes("holds 0 0 9 1").same("swaps", 1).takes("undo").same("swaps", NONE);
        x.takes("holds 0 1 0 1").same("swaps", 0).takes("holds 0 0 0 1").same("swaps", NONE);
        x.takes("saw 0 13").same("swaps", 0);
    }

    // ---- promises 16 to 22 together

    private static void wintersThatLeaveNoRust() {
        Bench.sentence("A WAY: that he held none, or which BAR he held and how many WINTERS (1 and 2 leave no RUST here)");
        Bench x = told("bar 1;bar 1;person 5;paint 0 0 1;paint 0 1 1;", "saw 0 8");
        // none; bar 0 one WINTER or two; bar 1 one to ten
        x.same("fits", 13).same("sure 0", NOT_SURE).same("odds 0 -4 0", 1).same("odds 0 -4 1", 13);
        x.same("odds 0 0 0", 2).same("odds 0 0 1", 13).same("odds 0 1 0", 10).same("odds 0 1 1", 13);
        x.same("claim 0 0 1", 1).same("claim 0 0 2", 1).same("claim 0 0 3", 0).same("saves 0 0 1", 1).same("saves 0 0 10", 2);
        x.same("scrape 0", 1).same("scrape 1", 3).takes("saw 1 10");
        x.same("fits", 3).same("sure 0", NOT_SURE).same("odds 0 0 0", 2).same("odds 0 0 1", 3).same("odds 0 -4 0", 1);
        x.same("claim 0 0 2", 1).same("claim 0 1 1", 0).same("saves 0 1 1", NONE).same("scrape 0", NONE).takes("hide 0");
        x.same("fits", 11).same("scrape 0", 0).same("scrape 1", 3).same("odds 0 0 0", 10).same("odds 0 0 1", 11);
        told("bar 1;person 5;paint 0 0 1;", "saw 0 9").same("fits", 2).takes("saw 0 54").same("fits", 1).same("sure 0", 0)
            .same("claim 0 0 10", 1).same("claim 0 0 9", 0);
    }

    private static void wintersThatLeaveTheSameRust() {
        Bench.sentence("A WAY: how many WINTERS (3 and 4 leave the same RUST here)");
        Bench x = told("bar 1;person 5;person 7;paint 0 3 1;", "saw 0 24");
        x.same("fits", 2).same("sure 0", 0).same("sure 1", HELD_NONE).same("odds 0 0 0", 1).same("odds 0 0 1", 1);
        x.same("claim 0 0 2", 0).same("claim 0 0 3", 1).same("claim 0 0 4", 1).same("claim 0 0 5", 0);
        x.same("saves 0 0 1", 3).same("saves 0 0 3", 3).same("saves 0 0 4", 4).same("saves 0 0 10", 4);
        x.takes("hide 0").same("scrape 0", 0).same("scrape 1", 4);
    }

    private static void nothingIsChanged() {
        Bench.sentence("(Nothing is changed) 16 to 22");
        Bench x = told("bar 1;bar 2;bar 3;person 2;person 5;", HOLDS).takes("saw 0 14").takes("keep 0").takes("saw 1 20")
            .takes("holds 1 2 2 2").types("rain");
        for (int again = 0; again < 2; again++) {
            x.same("fits", 11).same("sure 0", 0).same("sure 1", NOT_SURE).same("odds 0 0 0", 1).same("odds 1 -4 1", 11);
            x.same("claim 0 0 2", 1).same("claim 0 0 1", 0).same("saves 0 0 9", 2).same("scrape 0", 2).same("scrape 1", 1);
            x.same("swaps", NONE).same("count 5", 4).same("trace", 0);
        }
    }

    private static void holdsAreNotAsked() {
        Bench.sentence("(HOLDS are not asked, but by SWAPS)");
        String[] calls = {"fits", "sure 0", "sure 1", "odds 0 0 0", "odds 0 1 1", "odds 1 -4 0", "claim 0 0 3", "claim 1 1 1",
            "saves 0 0 1", "saves 1 1 10", "scrape 0", "scrape 1"};
        // 6 is three times 2, or twice 3 (no both of them); who is left over holds none, or bar 1
        long[] wants = {22, NOT_SURE, NOT_SURE, 1, 11, 1, 1, 1, 3, 10, 1, 2};
        for (String[] holds : new String[][] {{}, HOLDS}) {
            Bench x = told("bar 1;bar 1;person 2;person 3;", holds).takes("saw 0 16");
            for (int i = 0; i < calls.length; i++) {
                x.same(calls[i], wants[i]);
            }
        }
    }
}
