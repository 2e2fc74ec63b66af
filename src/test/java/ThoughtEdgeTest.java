/** Boundary cases of promises 12 to 15 and 21 to 28, each sentence by itself. What is refused: RefusalTest. */
public final class ThoughtEdgeTest {
    private static final Check CHECK = new Check("ThoughtEdgeTest");

    public static void main(String[] args) {
        thoughts();
        treadings();
        turnsAndNeedy();
        sold();
        places();
        rain();
        beyondTheLastDay();
        CHECK.finish();
    }

    private static void thoughts() {
        noDaysOn();
        mostDaysOn();
        thoughtsChangeNothing();
        firstThistleFromNowToNever();
        longestOfSeveral();
    }

    /** "n DAYS on (0 .. 99)": 0 is now. */
    private static void noDaysOn() {
        RugWasField x = Check.of("pm90022;ph03511;g00078;g20209;");
        for (int yard = 0; yard < 36; yard++) {
            CHECK.due("behind(" + yard + ", 0)", x.behind(yard, 0), yard < 8 ? 8 : yard == 20 ? 9 : 0);
        }
        CHECK.due("thistles(0, 0)", x.thistles(0, 0), 1);
        CHECK.due("thistles(0, 1)", x.thistles(0, 1), 34);
        CHECK.due("thistles(1, 0)", x.thistles(1, 0), 5);
        CHECK.due("thistles(1, 1)", x.thistles(1, 1), 30);
    }

    /** "n DAYS on (0 .. 99)": what has become thistle stays so to the last of them. */
    private static void mostDaysOn() {
        RugWasField x = Check.of("pp00066;");
        CHECK.due("thistles(26, 0)", x.thistles(26, 0), 0);
        CHECK.due("thistles(27, 0)", x.thistles(27, 0), 36);
        CHECK.due("thistles(99, 0)", x.thistles(99, 0), 36);
        CHECK.due("thistles(99, 1)", x.thistles(99, 1), 0);
        CHECK.due("behind(35, 26)", x.behind(35, 26), 8);
        CHECK.due("behind(35, 27)", x.behind(35, 27), 9);
        CHECK.due("behind(35, 99)", x.behind(35, 99), 9);
        CHECK.due("a hole's, behind(0, 99)", Check.of("ph90066;g00008;").behind(0, 99), 8);
    }

    private static RugWasField mixed() {
        RugWasField x = Check.of("pm90022;pt30822;pc81933;pf90033;ph03511;r2;g20249;d05;");
        x.image();
        x.days(1);
        Check.rowOf(x, 3, 3);
        x.letter('r');
        x.letter('0');
        x.letter(';');
        return x;
    }

    /** "In mind": no thought changes what there is. */
    private static void thoughtsChangeNothing() {
        String[] calls = {"behind 0 99", "thistles 99 0", "thistles 99 1", "firstThistle 1", "longest", "steps 0 35", "reached 0 35",
            "cut 0 35", "opens 0 35", "putAway 0 35 1 36", "treadings 0 40 0", "treadings 0 40 1", "turns 99", "needy 99", "sold 99 0",
            "sold 99 1", "hay 0", "same 0", "same 1", "edge 0", "rain 0 8 20 0", "rain 0 8 20 1", "two 0 2 0 35", "whatWas 0 0",
            "whatWas 0 1", "lots 20 7 0", "lots 20 7 1", "count 2", "grows 0 999", "yard 0 2", "piece 0 6"};
        String untouched = Sight.ofAll(ThoughtEdgeTest::mixed);
        for (String call : calls) {
            CHECK.yes(call + " changes nothing", Sight.ofAll(() -> asked(call)).equals(untouched));
        }
    }

    private static RugWasField asked(String call) {
        RugWasField x = mixed();
        String[] words = call.split(" ");
        int[] arguments = new int[words.length - 1];
        for (int i = 0; i < arguments.length; i++) {
            arguments[i] = Integer.parseInt(words[i + 1]);
        }
        Check.call(x, words[0], arguments);
        return x;
    }

    /** "the fewest DAYS (0 .. 99) behind which one that BELONGS to it is; -9": no kind that grows needs more than 27. */
    private static void firstThistleFromNowToNever() {
        int[] latest = {27, 26, 25, 27, 26, 25, 27};
        for (int day = 0; day < latest.length; day++) {
            RugWasField x = Check.of(day == 0 ? "pp00011;" : "d0" + day + ";pp00011;");
            CHECK.due("from DAY " + day, x.firstThistle(0), latest[day]);
            x.makes(0, 8);
            CHECK.due("with 8, from DAY " + day, x.firstThistle(0), 3 - day % 3);
            x.makes(0, 9);
            CHECK.due("thistle now, from DAY " + day, x.firstThistle(0), 0);
        }
        RugWasField y = Check.of("ph90011;pp00111;pp00011;g00018;r1;");
        for (int piece = 0; piece < 3; piece++) {
            CHECK.due("never: " + piece, y.firstThistle(piece), -9);
        }
        y.makes(0, 9);
        CHECK.due("a hole's thistle now", y.firstThistle(0), 0);
        CHECK.due("it does not belong to the other", y.firstThistle(2), -9);
        RugWasField last = Check.of("pp00066;g35358;");
        CHECK.due("its last yard", last.firstThistle(0), 3);
        for (int most = 0; most < 36; most++) {
            RugWasField all = Check.of("pp00066;g00355;");
            CHECK.due("alike", all.firstThistle(0), 12);
            all.makes(most, 8);
            CHECK.due("its yard " + most, all.firstThistle(0), 3);
            CHECK.due("latest by its yard " + most, all.longest(), 0);
            all.makes(most, 9);
            CHECK.due("its thistle " + most, all.firstThistle(0), 0);
        }
        // By the figure: a meadow of 3 is as a turf, one of 9 has 2, 5, 8, 11; a field of 9 has 1, 2, 5 on DAYS 3, 6, 7.
        CHECK.due("a meadow of 3", Check.of("pm30011;").firstThistle(0), 12);
        CHECK.due("a meadow of 9", Check.of("pm90011;").firstThistle(0), 4);
        CHECK.due("a field of 2", Check.of("pf20011;").firstThistle(0), 27);
        CHECK.due("a field of 9", Check.of("pf90011;").firstThistle(0), 14);
    }

    /** "whose FIRST THISTLE is latest (never latest of all), of several the least; -9 there are none". */
    private static void longestOfSeveral() {
        CHECK.due("none", new RugWasField().longest(), -9);
        CHECK.due("none, with thistles", Check.of("g00359;").longest(), -9);
        CHECK.due("the only one, thistle now", Check.of("pp00011;g00009;").longest(), 0);
        CHECK.due("the only one, never", Check.of("ph00011;").longest(), 0);
        CHECK.due("27 ahead of 12", Check.of("pt00011;pp00111;").longest(), 1);
        CHECK.due("never ahead of 27", Check.of("pp00011;ph00111;").longest(), 1);
        CHECK.due("never, at first", Check.of("ph00011;pp00111;").longest(), 0);
        CHECK.due("several never", Check.of("pp00011;ph00111;pp00011;ph00211;").longest(), 1);
        CHECK.due("several with 27", Check.of("pt00011;pp00111;pp00211;pp00311;pp00411;pt00511;").longest(), 1);
        CHECK.due("the last of six", Check.of("pt00011;pt00111;pt00211;pt00311;pt00411;pp00511;").longest(), 5);
        CHECK.due("one day later", Check.of("pp00011;pp00111;g00012;g01011;").longest(), 1);
    }

    private static void treadings() {
        treadingsOnNoDays();
        treadingsOnEachNumberOfDays();
        treadingsOnTheLastDay();
        treadingsOfWhatBelongs();
    }

    private static void trod(RugWasField x, int n, int many, int day) {
        CHECK.due("treadings(0, " + n + ", 0)", x.treadings(0, n, 0), many);
        CHECK.due("treadings(0, " + n + ", 1)", x.treadings(0, n, 1), day);
    }

    /** "behind any of these DAYS": by n 0 there are none, though it is thistle now. */
    private static void treadingsOnNoDays() {
        for (String kind : new String[] {"p", "m", "h"}) {
            RugWasField x = Check.of("p" + kind + "90011;g00009;");
            trod(x, 0, 0, -9);
            trod(x, 1, 1, 1);
        }
    }

    /** "the fewest ..: how many", "the latest DAY for the first one of these; -9 none is needed". */
    private static void treadingsOnEachNumberOfDays() {
        // A piece with 8 grows on DAYS 3, 6, ..: trod on 3, it has 9 on 27 again.
        RugWasField x = Check.of("pp00011;g00008;");
        for (int n = 0; n <= 40; n++) {
            trod(x, n, n < 3 ? 0 : n < 27 ? 1 : 2, n < 3 ? -9 : 3);
        }
        // A hole with a thistle: once is enough for ever.
        RugWasField y = Check.of("ph00011;g00009;");
        for (int n = 1; n <= 40; n++) {
            trod(y, n, 1, 1);
        }
        // 8 on a hole stay 8.
        trod(Check.of("ph00011;g00008;"), 40, 0, -9);
    }

    /** From DAY 2 on a piece grows on the days 1, 4, .. 40 from now. */
    private static void treadingsOnTheLastDay() {
        RugWasField x = Check.of("d02;pp00011;g00003;");
        trod(x, 15, 0, -9);
        trod(x, 16, 1, 16);
        trod(x, 39, 1, 16);
        trod(x, 40, 2, 16);
        RugWasField y = Check.of("d02;pp00011;g00008;");
        trod(y, 1, 1, 1);
    }

    /** "nothing that BELONGS to it". */
    private static void treadingsOfWhatBelongs() {
        RugWasField x = Check.of("pp00111;pp00013;g01019;g03039;");
        CHECK.due("another's thistle", x.treadings(1, 2, 0), 0);
        CHECK.due("another's thistle", x.treadings(1, 2, 1), -9);
        x.makes(2, 9);
        CHECK.due("its last yard", x.treadings(1, 2, 0), 1);
        RugWasField none = Check.of("pp00011;pm90011;g00009;");
        CHECK.due("one without yards", none.treadings(1, 40, 0), 0);
        CHECK.due("one without yards", none.treadings(1, 40, 1), -9);
        // The most grown yard tells, and to tread takes all of it down.
        RugWasField two = Check.of("pp00012;g00007;g01018;");
        trod(two, 2, 0, -9);
        trod(two, 3, 1, 3);
        trod(two, 26, 1, 3);
        trod(two, 27, 2, 3);
        // Wherever it lies: the first of its yards, one between, the last.
        for (int most : new int[] {7, 8, 9, 13, 14, 15, 19, 20, 21}) {
            RugWasField nine = Check.of("pp00733;g00355;");
            nine.makes(most, 8);
            trod(nine, 2, 0, -9);
            trod(nine, 3, 1, 3);
        }
    }

    private static void turnsAndNeedy() {
        turnsGoRound();
        turnsWithNone();
        needyOnlyIfFewer();
    }

    /** "by turns (from the least on, one each DAY, ahead of its growing)". */
    private static void turnsGoRound() {
        RugWasField holes = Check.of("ph00011;ph00111;ph00211;ph00311;ph00411;ph00511;g00059;");
        for (int n = 0; n <= 8; n++) {
            CHECK.due("six by turns, turns(" + n + ")", holes.turns(n), Math.max(0, 6 - n));
        }
        holes.rolls(0);
        holes.rolls(3);
        holes.rolls(5);
        for (int n = 0; n <= 8; n++) {
            CHECK.due("three by turns, turns(" + n + ")", holes.turns(n), Math.max(3, 6 - n));
        }
        // Meadows of 9 grow by 2, 3, 3, 3, 2, 4, 2 on the first days; the first has its turn again on the seventh.
        RugWasField meadows = Check.of("pm90011;pm90111;pm90211;pm90311;pm90411;pm90511;");
        int[] wants = {0, 0, 0, 0, 4, 3, 4, 3};
        for (int n = 0; n < wants.length; n++) {
            CHECK.due("six meadows, turns(" + n + ")", meadows.turns(n), wants[n]);
        }
        RugWasField one = Check.of("pm90066;g00359;");
        CHECK.due("one, turns(0)", one.turns(0), 36);
        CHECK.due("one, turns(1)", one.turns(1), 0);
        CHECK.due("one, turns(99)", one.turns(99), 0);
    }

    /** "all not ROLLED up": there may be none. */
    private static void turnsWithNone() {
        RugWasField bare = Check.of("g00049;");
        RugWasField rolled = Check.of("pm90012;pm90211;r0;r1;g00019;");
        for (int n : new int[] {0, 1, 99}) {
            CHECK.due("no pieces, turns(" + n + ")", bare.turns(n), 5);
            CHECK.due("all rolled up, turns(" + n + ")", rolled.turns(n), 2);
        }
        // One that no yard belongs to has its turn, and nothing is trod on that day.
        RugWasField yardless = Check.of("ph00011;ph00011;ph00111;g00019;");
        int[] wants = {2, 1, 1, 0, 0};
        for (int n = 0; n < wants.length; n++) {
            CHECK.due("one without yards between, turns(" + n + ")", yardless.turns(n), wants[n]);
        }
    }

    /** "makes THISTLES behind n DAYS fewest, fewer than else, of several the least; -9". */
    private static void needyOnlyIfFewer() {
        CHECK.due("no pieces", Check.of("g00359;").needy(0), -9);
        CHECK.due("one without yards", Check.of("g00359;pp00011;pp00011;t0;g00009;").needy(0), 0);
        RugWasField x = Check.of("ph00011;ph00112;ph00312;g00049;");
        CHECK.due("fewest", x.needy(0), 1);
        CHECK.due("holes' 99 days", x.needy(99), 1);
        x.treads(1);
        CHECK.due("the next", x.needy(99), 2);
        x.treads(2);
        CHECK.due("the last", x.needy(99), 0);
        x.treads(0);
        CHECK.due("none is fewer", x.needy(99), -9);
        // A turf trod now is thistle behind 12 days as it would be else: no fewer.
        RugWasField turf = Check.of("pt00011;g00008;");
        CHECK.due("needy(1)", turf.needy(1), -9);
        CHECK.due("needy(2)", turf.needy(2), 0);
        CHECK.due("needy(11)", turf.needy(11), 0);
        CHECK.due("needy(12)", turf.needy(12), -9);
        CHECK.due("needy(99)", turf.needy(99), -9);
        RugWasField six = Check.of("ph00011;ph00111;ph00211;ph00311;ph00411;ph00511;g05059;");
        CHECK.due("the last of six", six.needy(99), 5);
        six.rolls(5);
        CHECK.due("rolled up it can not be trod", six.needy(99), -9);
    }

    private static void sold() {
        soldOfNone();
        soldOfSeveral();
    }

    /** "-9 there are none", though there is something grown; 0 is no lack. */
    private static void soldOfNone() {
        RugWasField bare = Check.of("g00359;");
        CHECK.due("none", bare.sold(0, 0), -9);
        CHECK.due("none", bare.sold(99, 1), -9);
        RugWasField one = Check.of("pm90066;");
        CHECK.due("the only one", one.sold(99, 0), 0);
        CHECK.due("nothing without it", one.sold(99, 1), 0);
        RugWasField all = Check.of("pm90066;g00359;");
        CHECK.due("all that can be", all.sold(0, 1), 324);
        CHECK.due("all that can be", all.sold(99, 1), 324);
    }

    /** "(its YARDS BELONG to others that have them, or none) most .., of several the least". */
    private static void soldOfSeveral() {
        RugWasField x = Check.of("pm90011;pm90111;pm90211;pm90311;pm90411;ph00511;");
        CHECK.due("now all are alike", x.sold(0, 0), 0);
        CHECK.due("now", x.sold(0, 1), 0);
        CHECK.due("the last of six", x.sold(1, 0), 5);
        CHECK.due("five grow by 2", x.sold(1, 1), 10);
        CHECK.due("behind 99 days", x.sold(99, 1), 45);
        // Without 0 its yard goes to 1, the least of the others, not to 2.
        RugWasField y = Check.of("ph00011;pp00011;pm90011;");
        CHECK.due("which", y.sold(3, 0), 0);
        CHECK.due("by a piece", y.sold(3, 1), 1);
        RugWasField rolled = Check.of("ph00011;pm90011;r1;");
        CHECK.due("it goes to one rolled up", rolled.sold(99, 1), 0);
    }

    private static void places() {
        hayOfNoneAndAll();
        sameByOneYard();
        edgeOfTheLand();
        placesWhateverLiesThere();
    }

    /** HAY, SAME, EDGE and who has a YARD ask neither for the KIND nor whether it is ROLLED up. */
    private static void placesWhateverLiesThere() {
        for (char lesser : "ptmcfh".toCharArray()) {
            for (char other : "ptmcfh".toCharArray()) {
                for (String rolled : new String[] {"", "r0;", "r1;", "r0;r1;"}) {
                    RugWasField x = Check.of("p" + lesser + "90022;p" + other + "90733;" + rolled + "g00352;g14149;");
                    String which = " of " + lesser + ", " + other + " by " + rolled;
                    CHECK.due("same(0)" + which, x.same(0), 1);
                    CHECK.due("same(1)" + which, x.same(1), 1);
                    CHECK.due("hay(0)" + which, x.hay(0), 8);
                    CHECK.due("hay(1)" + which, x.hay(1), 23);
                    CHECK.due("edge(0)" + which, x.edge(0), 3);
                    CHECK.due("edge(1)" + which, x.edge(1), 7);
                    CHECK.due("piece(0, 6)" + which, x.piece(0, 6), 4);
                    CHECK.due("piece(1, 6)" + which, x.piece(1, 6), 8);
                    CHECK.due("yard(7, 1)" + which, x.yard(7, 1), 0);
                    CHECK.due("yard(14, 1)" + which, x.yard(14, 1), 1);
                }
            }
        }
    }

    /** Promise 25. */
    private static void hayOfNoneAndAll() {
        RugWasField x = Check.of("pp00066;pp03511;g00359;");
        CHECK.due("all the land", x.hay(0), 324);
        CHECK.due("none belongs to it", x.hay(1), 0);
        x.rolls(0);
        CHECK.due("rolled up", x.hay(0), 324);
        x.makes(0, 0);
        CHECK.due("less", x.hay(0), 315);
        CHECK.due("nothing grown", Check.of("pp00066;").hay(0), 0);
        CHECK.due("the last of six", Check.of("pp00011;pp00011;pp00011;pp00011;pp00011;pp03511;g35357;").hay(5), 7);
    }

    /** "two PIECES that have a YARD both: how many twos; the first (10 the lesser and the other); -9". */
    private static void sameByOneYard() {
        CHECK.due("no pieces", new RugWasField().same(0), 0);
        CHECK.due("no pieces", new RugWasField().same(1), -9);
        CHECK.due("one piece", Check.of("pp00066;").same(0), 0);
        CHECK.due("one piece", Check.of("pp00066;").same(1), -9);
        RugWasField corner = Check.of("pp00033;pp01433;");
        CHECK.due("one yard", corner.same(0), 1);
        CHECK.due("one yard", corner.same(1), 1);
        RugWasField beside = Check.of("pp00022;pp01422;pp00222;");
        CHECK.due("corner to corner, side by side", beside.same(0), 0);
        CHECK.due("a row's end and the next row's first", Check.of("pp00511;pp00611;").same(0), 0);
        RugWasField six = Check.of("pp00011;pp00111;pp00211;pp00311;pp00412;pp00511;");
        CHECK.due("the last two of six", six.same(0), 1);
        CHECK.due("the last two of six", six.same(1), 45);
        RugWasField all = Check.of("pp03511;".repeat(6));
        CHECK.due("all", all.same(0), 15);
        CHECK.due("all", all.same(1), 1);
        CHECK.due("nothing of it belongs to either", Check.of("pp00066;pp00011;pp00011;").same(0), 3);
    }

    /** "how many of the YARDS that BELONG to it are BESIDE a YARD that does not": beyond the land there is none. */
    private static void edgeOfTheLand() {
        CHECK.due("all the land", Check.of("pp00066;").edge(0), 0);
        CHECK.due("the first yard", Check.of("pp00011;").edge(0), 1);
        CHECK.due("the last yard", Check.of("pp03511;").edge(0), 1);
        CHECK.due("all but the last", Check.of("pp03511;pp00066;").edge(1), 2);
        CHECK.due("all but the first", Check.of("pp00011;pp00066;").edge(1), 2);
        CHECK.due("five rows", Check.of("pp00056;").edge(0), 6);
        CHECK.due("five columns", Check.of("pp00165;").edge(0), 6);
        CHECK.due("one row", Check.of("pp03016;").edge(0), 6);
        CHECK.due("one column", Check.of("pp00561;").edge(0), 6);
        CHECK.due("none belongs to it", Check.of("pp00066;pp00155;").edge(1), 0);
        CHECK.due("within", Check.of("pp00744;").edge(0), 12);
        RugWasField x = Check.of("pp00713;pp00033;r0;");
        CHECK.due("beside one rolled up", x.edge(1), 6);
        CHECK.due("a row's end is not beside the next row's first", Check.of("pp00511;pp00016;pp00656;").edge(2), 6);
    }

    private static void likely(RugWasField x, int n, int t, long above, long below) {
        CHECK.due("rain(0, " + n + ", " + t + ", 0)", x.rain(0, n, t, 0), above);
        CHECK.due("rain(0, " + n + ", " + t + ", 1)", x.rain(0, n, t, 1), below);
    }

    private static void rain() {
        rainOnNoDays();
        rainOnAllDays();
        rainInLeastTerms();
    }

    /** "each of n DAYS (0 .. 8)", "0 as 0 by 1". */
    private static void rainOnNoDays() {
        RugWasField x = Check.of("pm90011;g00008;");
        for (int t = 2; t <= 20; t++) {
            likely(x, 0, t, 0, 1);
            likely(x, 1, t, 1, 1);
        }
        x.makes(0, 9);
        likely(x, 0, 2, 1, 1);
        likely(x, 0, 20, 1, 1);
        likely(x, 8, 20, 1, 1);
        RugWasField never = Check.of("ph00011;g00008;");
        likely(never, 8, 20, 0, 1);
        likely(never, 8, 2, 0, 1);
        likely(Check.of("g00008;"), 8, 2, 0, 1);
        // What is thistle stays so: of none, of one rolled up, of a hole.
        for (String thistle : new String[] {"g00009;", "pm90011;r0;g00009;", "ph00011;g00009;"}) {
            for (int n = 0; n <= 8; n++) {
                likely(Check.of(thistle), n, 20, 1, 1);
                likely(Check.of(thistle.replace("g00009", "g00008")), n, 20, 0, 1);
            }
        }
    }

    /** "a DAY of rain is two (both in their turn)": from DAY 2 a piece with 3 has 9 behind 16 days, not behind 15. */
    private static void rainOnAllDays() {
        RugWasField x = Check.of("d02;pp00011;g00003;");
        likely(x, 7, 2, 0, 1);
        likely(x, 8, 2, 1, 256);
        likely(x, 8, 3, 1, 6561);
        likely(x, 8, 20, 1, 25600000000L);
        // With 4 it has 9 behind 13 days: five of eight with rain, at least.
        x.makes(0, 4);
        likely(x, 6, 2, 0, 1);
        likely(x, 8, 2, 56 + 28 + 8 + 1, 256);
    }

    /** "Fractions are told in least terms". */
    private static void rainInLeastTerms() {
        // A turf with 8 has 9 behind two days: no rain on one day is the only way to miss it.
        RugWasField x = Check.of("pt00011;g00008;");
        for (int t = 2; t <= 20; t++) {
            likely(x, 1, t, 1, t);
        }
        likely(x, 2, 20, 1, 1);
        // With 7 behind three: rain on one of two days, at least.
        x.makes(0, 7);
        likely(x, 2, 2, 3, 4);
        likely(x, 2, 4, 7, 16);
        likely(x, 2, 20, 39, 400);
        // With 6 behind four: rain on both of two, or one of three at least.
        x.makes(0, 6);
        likely(x, 2, 20, 1, 400);
        likely(x, 3, 2, 7, 8);
        // With 1 behind ten: at least two of eight with rain, all but 1 + 8 of 256.
        x.makes(0, 1);
        likely(x, 8, 2, 247, 256);
        // With 4 behind six, with 3 behind eight: two of four with rain at least, or all.
        x.makes(0, 4);
        likely(x, 4, 2, 6 + 4 + 1, 16);
        x.makes(0, 3);
        likely(x, 4, 2, 1, 16);
        // A common divisor goes: six or seven of seven with rain are 8 of 128.
        RugWasField y = Check.of("d02;pp00011;g00004;");
        likely(y, 7, 2, 1, 16);
    }

    /** "(In thought DAY may pass 999.)": a turf grows 1, 0, 2, 0, 1, 1, 1, 0, 2, 0, 1 on DAYS 1000 to 1010. */
    private static void beyondTheLastDay() {
        RugWasField x = Check.of("d60;".repeat(16) + "d39;");
        Check.tell(x, "pt00011;pp00111;");
        int[] turf = {0, 1, 1, 3, 3, 4, 5, 6, 6, 8, 8, 9};
        for (int n = 0; n < turf.length; n++) {
            CHECK.due("behind(0, " + n + ")", x.behind(0, n), turf[n]);
            CHECK.due("thistles(" + n + ", 0)", x.thistles(n, 0), n == 11 ? 1 : 0);
            CHECK.due("thistles(" + n + ", 1)", x.thistles(n, 1), n == 11 ? 35 : 36);
        }
        CHECK.due("behind(1, 99)", x.behind(1, 99), 9);
        CHECK.due("firstThistle(0)", x.firstThistle(0), 11);
        CHECK.due("firstThistle(1)", x.firstThistle(1), 27);
        CHECK.due("longest()", x.longest(), 1);
        trod(x, 10, 0, -9);
        trod(x, 11, 1, 11);
        trod(x, 40, 4, 11);
        CHECK.due("sold(1, 0)", x.sold(1, 0), 1);
        CHECK.due("sold(1, 1)", x.sold(1, 1), 1);
        Check.rowOf(x, 0, 1, 1, 3);
        CHECK.due("whatWas(0, 0)", x.whatWas(0, 0), 2 + 4);
        CHECK.due("whatWas(0, 1)", x.whatWas(0, 1), 1023);
        x.makes(0, 8);
        CHECK.due("needy(1)", x.needy(1), 0);
        Check.rowOf(x, 0, 1, 1);
        CHECK.due("judge()", x.judge(), -9);
        x.makes(0, 6);
        likely(x, 2, 2, 3, 4);
        // By the seed 256 the first draws are 0, 0: neither is rolled up.
        x.makes(0, 0);
        CHECK.due("lots(1, 256, 1)", x.lots(1, 256, 1), 8 + 3);
        CHECK.due("DAY", x.count(1), 999);
        RugWasField meadows = Check.of("d60;".repeat(16) + "d39;");
        Check.tell(meadows, "pm90011;pm90111;pm90211;pm90311;pm90411;pm90511;");
        CHECK.due("turns(2)", meadows.turns(2), 0);
        CHECK.due("turns(3)", meadows.turns(3), 4);
    }
}
