/** Boundary cases of promises 16 to 20 and 29, each sentence by itself. What is refused: RefusalTest. */
public final class WayEdgeTest {
    private static final Check CHECK = new Check("WayEdgeTest");
    /** The second and the fourth row but for a gap each, and the last row but for its last yard: one long way. */
    private static final String LONG_WAY = "g06109;g19239;g30349;";
    /** The third row. */
    private static final String WALL = "g12179;";

    public static void main(String[] args) {
        steps();
        reached();
        cut();
        opens();
        putAway();
        two();
        CHECK.finish();
    }

    private static void steps() {
        stepsOfNone();
        stepsAlongTheLongWay();
        endsMustBeOpen();
    }

    /** "STEPS from one YARD to the next": a yard to itself takes none; -9 where there is no way. */
    private static void stepsOfNone() {
        RugWasField x = new RugWasField();
        for (int yard = 0; yard < 36; yard++) {
            CHECK.due("steps(" + yard + ", " + yard + ")", x.steps(yard, yard), 0);
            CHECK.due("steps(0, " + yard + ")", x.steps(0, yard), yard / 6 + yard % 6);
            CHECK.due("steps(" + yard + ", 35)", x.steps(yard, 35), 10 - yard / 6 - yard % 6);
        }
        RugWasField thistles = Check.of("g00359;");
        CHECK.due("a thistle to itself", thistles.steps(0, 0), -9);
        thistles.makes(0, 0);
        CHECK.due("the only open yard to itself", thistles.steps(0, 0), 0);
        CHECK.due("to a thistle beside it", thistles.steps(0, 1), -9);
        CHECK.due("from a thistle beside it", thistles.steps(1, 0), -9);
        thistles.makes(7, 8);
        CHECK.due("corner to corner is not beside", thistles.steps(0, 7), -9);
    }

    private static void stepsAlongTheLongWay() {
        RugWasField x = Check.of(LONG_WAY);
        CHECK.due("the long way", x.steps(0, 35), 20);
        CHECK.due("and back", x.steps(35, 0), 20);
        x.makes(10, 8);
        CHECK.due("a little shorter", x.steps(0, 35), 18);
        x.makes(29, 9);
        CHECK.due("shut", x.steps(0, 35), -9);
    }

    /** "A WAY goes over OPEN YARDS BESIDE each other, its ends, too". */
    private static void endsMustBeOpen() {
        RugWasField x = Check.of("pp00011;ph00211;pp00411;r0;g35359;");
        CHECK.due("from one rolled up", x.steps(0, 1), -9);
        CHECK.due("to one rolled up", x.steps(1, 0), -9);
        CHECK.due("one rolled up to itself", x.steps(0, 0), -9);
        CHECK.due("to a hole", x.steps(1, 2), -9);
        CHECK.due("a hole to itself", x.steps(2, 2), -9);
        CHECK.due("around a hole", x.steps(1, 3), 4);
        CHECK.due("to a thistle", x.steps(34, 35), -9);
        CHECK.due("over one that lies", x.steps(3, 5), 2);
    }

    private static void reached() {
        reachedStepByStep();
        reachedFromWhatIsNotOpen();
    }

    /** "WAYS of so many STEPS (0 .. 35) at most: how many YARDS (itself, too ..)". */
    private static void reachedStepByStep() {
        RugWasField bare = new RugWasField();
        int[] fromTheFirst = {1, 3, 6, 10, 15, 21, 26, 30, 33, 35, 36, 36};
        for (int n = 0; n < fromTheFirst.length; n++) {
            CHECK.due("reached(0, " + n + ")", bare.reached(0, n), fromTheFirst[n]);
            CHECK.due("reached(35, " + n + ")", bare.reached(35, n), fromTheFirst[n]);
        }
        CHECK.due("reached(0, 35)", bare.reached(0, 35), 36);
        RugWasField x = Check.of(LONG_WAY);
        for (int n = 0; n <= 35; n++) {
            CHECK.due("along the long way, reached(0, " + n + ")", x.reached(0, n), Math.min(n, 20) + 1);
        }
    }

    /** "0 it is not OPEN". */
    private static void reachedFromWhatIsNotOpen() {
        RugWasField x = Check.of("g00009;pp00111;r0;ph00211;");
        for (int yard = 0; yard < 3; yard++) {
            CHECK.due("reached(" + yard + ", 0)", x.reached(yard, 0), 0);
            CHECK.due("reached(" + yard + ", 35)", x.reached(yard, 35), 0);
        }
        CHECK.due("the others", x.reached(3, 35), 33);
        RugWasField alone = Check.of("g00359;g14140;");
        CHECK.due("alone", alone.reached(14, 0), 1);
        CHECK.due("alone", alone.reached(14, 35), 1);
    }

    private static void cut() {
        cutOfNone();
        cutByFewest();
        cutByWhatLies();
    }

    /** "-9 none do; 0 there is none now". */
    private static void cutOfNone() {
        CHECK.due("no pieces, a way", new RugWasField().cut(0, 35), -9);
        CHECK.due("no pieces, no way", Check.of(WALL).cut(0, 35), 0);
        CHECK.due("a piece that is not on the way", Check.of("pp00711;").cut(0, 35), -9);
        CHECK.due("an end in a hole", Check.of("ph00011;").cut(0, 35), 0);
        CHECK.due("the other end is thistle", Check.of("pp00011;g35359;").cut(0, 35), 0);
        RugWasField rolled = Check.of("pp00011;pp03511;r0;");
        CHECK.due("an end rolled up", rolled.cut(0, 35), 0);
        rolled.rolls(0);
        rolled.rolls(1);
        CHECK.due("the other end rolled up", rolled.cut(0, 35), 0);
        CHECK.due("beside each other, of none", Check.of("pp00211;").cut(0, 1), -9);
    }

    /** "the fewest PIECES not ROLLED up (bits, of several the least)". */
    private static void cutByFewest() {
        RugWasField ends = Check.of("pp03511;pp00011;");
        CHECK.due("either end would do", ends.cut(0, 35), 1);
        CHECK.due("either end would do", ends.cut(35, 0), 1);
        CHECK.due("one end", ends.cut(0, 34), 2);
        RugWasField x = Check.of("pp01213;pp01513;pp02414;pp02812;pp00611;");
        CHECK.due("two twos: the least", x.cut(0, 35), 3);
        x.rolls(0);
        CHECK.due("one more is enough", x.cut(0, 35), 2);
        RugWasField six = Check.of("ph00011;ph00111;ph00211;ph00311;ph00411;pp01216;");
        CHECK.due("the last of six", six.cut(6, 35), 32);
        RugWasField columns = Check.of("pp01211;pp01311;pp01411;pp01511;pp01611;pp01711;");
        CHECK.due("all six", columns.cut(0, 35), 63);
        columns.makes(15, 9);
        CHECK.due("all but one", columns.cut(0, 35), 63 - 8);
    }

    /** Those that are rolled up are not among them, and stay so. */
    private static void cutByWhatLies() {
        RugWasField x = Check.of("pp01216;pp01816;r0;");
        CHECK.due("no way now", x.cut(0, 35), 0);
        CHECK.due("below it", x.cut(24, 35), -9);
        CHECK.due("an end below it", x.cut(18, 35), 2);
        RugWasField all = Check.of("pp01213;pp00711;r0;r1;");
        CHECK.due("all rolled up, a way", all.cut(0, 35), -9);
        CHECK.due("as ahead", all.count(5), 3);
        // Who lies is as it is now, not as it was when the image was taken.
        RugWasField now = Check.of("pp00011;pp03511;r0;r1;");
        now.image();
        now.rolls(0);
        now.rolls(1);
        CHECK.due("either end would do now", now.cut(0, 35), 1);
        CHECK.due("the other end", now.cut(1, 35), 2);
    }

    private static void opens() {
        opensNothing();
        opensOneStepFewer();
        opensOfSeveral();
    }

    /** "-9": no piece makes it fewer. */
    private static void opensNothing() {
        CHECK.due("no pieces, a way", new RugWasField().opens(0, 35), -9);
        CHECK.due("no pieces, no way", Check.of(WALL).opens(0, 35), -9);
        CHECK.due("all lies, nothing grown", Check.of("pp00066;").opens(0, 35), -9);
        CHECK.due("as few as now is not fewer", Check.of("pp00111;r0;").opens(0, 35), -9);
        RugWasField hole = Check.of("g13179;ph01211;r0;");
        CHECK.due("a hole laid out is a hole", hole.opens(0, 35), -9);
        RugWasField walls = Check.of("g12179;g18239;pp01211;pp01811;");
        CHECK.due("one alone is not enough", walls.opens(0, 35), -9);
        CHECK.due("an end of none is thistle", Check.of("g00009;pp03511;r0;").opens(0, 35), -9);
    }

    /** "fewest, fewer than now (no WAY: more than any)". */
    private static void opensOneStepFewer() {
        RugWasField x = Check.of("pp01211;g13149;r0;");
        CHECK.due("steps now", x.steps(6, 18), 8);
        CHECK.due("steps then", x.opens(6, 18), 0);
        CHECK.due("no fewer to the right", x.opens(9, 21), -9);
        // By the gap at 15 and by that at 12: from 6 they are 3 + 2 + 1 and 2 + 2 steps, from 7 both are 5.
        RugWasField y = Check.of("g12149;g16179;pp01211;");
        CHECK.due("two fewer", y.opens(6, 20), 0);
        CHECK.due("as many", y.opens(7, 20), -9);
        RugWasField shut = Check.of("g06119;pp00611;");
        CHECK.due("the longest way is fewer than none", shut.opens(5, 17), 0);
    }

    /** "laid out (not ROLLED up) and TROD", "of several the least". */
    private static void opensOfSeveral() {
        RugWasField x = Check.of(WALL + "pp01211;pp01311;pp01411;pp01511;pp01611;pp01711;r1;");
        CHECK.due("the way's own column", x.opens(0, 18), 0);
        CHECK.due("laid out and trod both", x.opens(1, 19), 1);
        CHECK.due("the last of six", x.opens(5, 23), 5);
        CHECK.due("several as good: the least", x.opens(0, 35), 0);
        CHECK.due("several as good: the least", x.opens(2, 35), 2);
        CHECK.due("nothing is trod or laid out", x.count(3) + 10 * x.count(5), 6 + 20);
        RugWasField ends = Check.of("pp00011;r0;");
        CHECK.due("an end laid out", ends.opens(0, 1), 0);
        CHECK.due("an end laid out", ends.opens(1, 0), 0);
    }

    private static void putAway() {
        putAwayDayByDay();
        putAwayAtTheEnd();
        putAwayByTheFirstWay();
        putAwayOfNoWay();
    }

    /** "a STEP a DAY .. on the DAY n (1 .. 36)": on DAY 1 he has made one. */
    private static void putAwayDayByDay() {
        RugWasField x = Check.of(LONG_WAY + "pp00011;pp00111;pp00511;pp01111;pp03511;");
        int[] whenOn = {0, 1, 5, 6, 20};
        for (int piece = 0; piece < 5; piece++) {
            for (int n = 1; n <= 36; n++) {
                boolean stands = whenOn[piece] == Math.min(n, 20);
                CHECK.due("putAway(0, 35, " + piece + ", " + n + ")", x.putAway(0, 35, piece, n), stands ? 1 : 0);
            }
        }
    }

    /** "at the end he stands", and where both yards are one he stands from the first. */
    private static void putAwayAtTheEnd() {
        RugWasField x = Check.of("pp00011;pp00111;pp00013;");
        for (int n = 1; n <= 36; n++) {
            CHECK.due("he stands, DAY " + n, x.putAway(0, 0, 0, n), 1);
            CHECK.due("at the end, DAY " + n, x.putAway(0, 1, 1, n), 1);
            CHECK.due("he has left, DAY " + n, x.putAway(0, 1, 0, n), 0);
            CHECK.due("it belongs to the lesser, DAY " + n, x.putAway(0, 1, 2, n), 0);
            CHECK.due("on one's third yard, DAY " + n, x.putAway(0, 2, 2, n), n == 1 ? 0 : 1);
        }
    }

    /** "of several first up, left, right, down". */
    private static void putAwayByTheFirstWay() {
        RugWasField x = Check.of("pp00811;pp01311;pp01511;pp02011;");
        int[][] wants = {{14, 2, 0}, {14, 1, 0}, {14, 7, 0}, {14, 3, 0}, {14, 9, 0}, {14, 12, 1}, {14, 19, 1}, {14, 25, 1}, {14, 16, 2},
            {14, 21, 2}, {14, 28, 2}, {14, 26, 3}};
        for (int[] want : wants) {
            for (int piece = 0; piece < 4; piece++) {
                CHECK.due("from 14 to " + want[1] + ", " + piece, x.putAway(want[0], want[1], piece, 1), piece == want[2] ? 1 : 0);
            }
        }
        aroundWhatIsShut();
    }

    /** Up or down, left or right, each as short: around a thistle between; with the first of two shut, too, the other way. */
    private static void aroundWhatIsShut() {
        // From 14 over 15 to 16, over 13 to 12, over 20 to 26, over 8 to 2.
        int[][] ways = {{15, 16, 8, 20}, {13, 12, 8, 20}, {20, 26, 13, 15}, {8, 2, 13, 15}};
        for (int[] way : ways) {
            RugWasField x = Check.of("pp00811;pp01311;pp01511;pp02011;");
            x.makes(way[0], 9);
            stepsOnto(x, way[1], way[2]);
            x.makes(way[2], 9);
            stepsOnto(x, way[1], way[3]);
        }
        // To a corner all four may be the first: up and left, up and right, left and down, right and down.
        int[][] corners = {{7, 8, 13}, {9, 8, 15}, {19, 13, 20}, {21, 15, 20}};
        for (int[] corner : corners) {
            RugWasField x = Check.of("pp00811;pp01311;pp01511;pp02011;");
            stepsOnto(x, corner[0], corner[1]);
            x.makes(corner[1], 9);
            stepsOnto(x, corner[0], corner[2]);
        }
    }

    /** Whether his first step from 14 goes to that yard: each beside it is a piece's own. */
    private static void stepsOnto(RugWasField x, int end, int yard) {
        for (int piece = 0; piece < 4; piece++) {
            CHECK.due("from 14 to " + end + ", over " + piece, x.putAway(14, end, piece, 1), x.yard(yard, 1) == piece ? 1 : 0);
        }
    }

    /** "0 there is no WAY", though he would stand on it; "land as now": it is rolled up then, not now. */
    private static void putAwayOfNoWay() {
        RugWasField x = Check.of(WALL + "pp00066;");
        CHECK.due("no way", x.putAway(0, 35, 0, 1), 0);
        CHECK.due("a way", x.putAway(0, 1, 0, 1), 1);
        x.rolls(0);
        CHECK.due("rolled up now", x.putAway(0, 1, 0, 1), 0);
        CHECK.due("rolled up now, to itself", x.putAway(0, 0, 0, 1), 0);
        // From what is not open he does not set out, though he would stand beside it by one step.
        RugWasField shutIn = Check.of("ph01411;pp01711;pp00066;r1;g08089;");
        for (int from : new int[] {8, 14, 17}) {
            for (int n : new int[] {1, 36}) {
                CHECK.due("from " + from + ", DAY " + n, shutIn.putAway(from, 35, 2, n), 0);
                CHECK.due("to " + from + ", DAY " + n, shutIn.putAway(35, from, 2, n), 0);
            }
        }
        CHECK.due("beside them", shutIn.putAway(13, 35, 2, 1), 1);
        // What is shut elsewhere, the first yard or the last, is nothing to him.
        RugWasField corners = Check.of("pp00744;g00009;g35359;");
        CHECK.due("within, one step", corners.putAway(7, 28, 0, 1), 1);
        CHECK.due("within, at the end", corners.putAway(28, 7, 0, 36), 1);
        RugWasField growing = Check.of("pm90011;pm90111;pm90211;g00028;");
        CHECK.due("nothing grows meanwhile", growing.putAway(0, 2, 2, 36), 1);
    }

    private static void two() {
        neitherDoesBetter();
        noWayIsMostOfAll();
        firstOfSeveralPairs();
    }

    /** "(0 as it is, 1 the other way)": each of the four pairs; the first piece's owner wants few steps. */
    private static void neitherDoesBetter() {
        // The wall's gaps at 12 (piece 0) and 17 (piece 1); ways from 6 to 18 by the one take 2 steps, by the other 12.
        String gaps = "g13169;pp01211;pp01711;";
        CHECK.due("all lies: few by 0 itself", Check.of(gaps).two(0, 1, 6, 18), 0);
        CHECK.due("all lies: most by 0 rolled up", Check.of(gaps).two(1, 0, 6, 18), 1);
        CHECK.due("0 is rolled up: few by laying it out", Check.of(gaps + "r0;").two(0, 1, 6, 18), 10);
        CHECK.due("1 is rolled up: most by 0 rolled up, few by 1 laid out", Check.of(gaps + "r1;").two(1, 0, 6, 18), 11);
        CHECK.due("both are rolled up", Check.of(gaps + "r0;r1;").two(0, 1, 6, 18), 10);
        CHECK.due("both are rolled up", Check.of(gaps + "r0;r1;").two(1, 0, 6, 18), 10);
    }

    /** "(no WAY is most of all)". */
    private static void noWayIsMostOfAll() {
        // The only gap: piece 0; piece 1 lies apart.
        RugWasField x = Check.of("g13179;pp01211;pp03511;");
        CHECK.due("he who wants most shuts it", x.two(1, 0, 0, 18), 1);
        CHECK.due("he who wants few leaves it", x.two(0, 1, 0, 18), 0);
        x.rolls(0);
        CHECK.due("he who wants most leaves it shut", x.two(1, 0, 0, 18), 0);
        CHECK.due("he who wants few opens it", x.two(0, 1, 0, 18), 10);
        x.makes(12, 9);
        CHECK.due("nothing opens it", x.two(0, 1, 0, 18), 0);
        CHECK.due("nothing opens it", x.two(1, 0, 0, 18), 0);
        // The other's piece is an end of the way.
        RugWasField end = Check.of("pp00011;pp03511;");
        CHECK.due("he shuts his end", end.two(0, 1, 0, 35), 1);
        CHECK.due("he shuts his end", end.two(1, 0, 0, 35), 1);
    }

    /** "the first pair": where nothing matters it is as it is. */
    private static void firstOfSeveralPairs() {
        RugWasField apart = Check.of("pp00011;pp00511;pp00011;");
        CHECK.due("off the way", apart.two(0, 1, 30, 35), 0);
        CHECK.due("off the way", apart.two(1, 0, 30, 35), 0);
        CHECK.due("one without yards", apart.two(2, 1, 30, 35), 0);
        CHECK.due("one without yards, an end", apart.two(2, 0, 0, 35), 1);
        RugWasField six = Check.of("pp00011;pp00011;pp00011;pp00011;pp00511;pp03511;");
        CHECK.due("the last of six", six.two(4, 5, 0, 35), 1);
        CHECK.due("as ahead", six.count(5), 0);
        // The short way needs both: rolled up by the other's owner it is nothing to the first, as good as laid out.
        RugWasField behindEachOther = Check.of("g13169;pp01211;pp01811;r0;");
        CHECK.due("one behind the other", behindEachOther.two(0, 1, 6, 24), 1);
        // Either is as short: laid out, it is nothing to the other's owner to leave his.
        RugWasField sideBySide = Check.of("g12139;g16179;pp01411;pp01511;r0;");
        CHECK.due("one as good as the other", sideBySide.two(0, 1, 8, 21), 10);
        RugWasField holes = Check.of("ph00011;ph03511;");
        CHECK.due("holes", holes.two(0, 1, 0, 35), 0);
    }
}
