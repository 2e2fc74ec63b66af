/** Boundary cases of promises 30 to 38, each sentence by itself. What is refused: RefusalTest. */
public final class RowEdgeTest {
    private static final Check CHECK = new Check("RowEdgeTest");

    public static void main(String[] args) {
        row();
        patch();
        whatWas();
        judged();
        lots();
        image();
        counts();
        CHECK.finish();
    }

    private static void row() {
        everyNumberIsTaken();
        roomForSixteen();
    }

    /** "A number more of the ROW (0 .. 99): how many." */
    private static void everyNumberIsTaken() {
        RugWasField x = new RugWasField();
        for (int v = 0; v <= 99; v++) {
            CHECK.due("row(" + v + ")", x.row(v), v % 10 + 1);
            if (v % 10 == 9) {
                CHECK.due("clear()", x.clear(), 10);
            }
        }
        CHECK.due("row(-1)", x.row(-1), -4);
        CHECK.due("row(100)", x.row(100), -6);
        CHECK.due("in the row", x.count(6), 0);
    }

    /** "16 at most": the 16th comes, the 17th does not; cleared or judged, there is room for 16 again. */
    private static void roomForSixteen() {
        RugWasField x = new RugWasField();
        for (int time = 0; time < 3; time++) {
            for (int i = 1; i <= 16; i++) {
                CHECK.due("row, " + i, x.row(0), i);
            }
            CHECK.due("row, 17", x.row(0), -6);
            CHECK.due("in the row", x.count(6), 16);
            CHECK.due(time == 0 ? "clear()" : "judge()", time == 0 ? x.clear() : x.judge(), time == 0 ? 16 : -9);
            CHECK.due("in the row then", x.count(6), 0);
            CHECK.due("clear() again", x.clear(), 0);
        }
    }

    private static void patch() {
        patchAtEachPlace();
        patchGoesNotOverTheEdge();
        patchHowManyAndTheFirst();
    }

    /** "the YARDS at which it fits now": 25 of them, the last is 28. */
    private static void patchAtEachPlace() {
        for (int yard = 0; yard <= 28; yard++) {
            if (yard % 6 == 5) {
                continue;
            }
            RugWasField x = new RugWasField();
            x.makes(yard, 1);
            x.makes(yard + 1, 2);
            x.makes(yard + 6, 3);
            x.makes(yard + 7, 9);
            Check.rowOf(x, 1, 2, 3, 9);
            CHECK.due("once, at " + yard, x.patch(0), 1);
            CHECK.due("at " + yard, x.patch(1), yard);
            Check.rowOf(x, 1, 2, 3, 8);
            CHECK.due("another number", x.patch(0), 0);
            CHECK.due("another number", x.patch(1), -9);
        }
    }

    /** "a patch 2 high, 2 wide": it does not wrap around from a row's end, nor go below the last row. */
    private static void patchGoesNotOverTheEdge() {
        for (int end = 5; end <= 23; end += 6) {
            RugWasField x = new RugWasField();
            x.makes(end, 1);
            x.makes(end + 1, 2);
            x.makes(end + 6, 3);
            x.makes(end + 7, 4);
            Check.rowOf(x, 1, 2, 3, 4);
            CHECK.due("over a row's end at " + end, x.patch(0), 0);
        }
        RugWasField last = Check.of("g30355;");
        Check.rowOf(last, 5, 5, 0, 0);
        CHECK.due("below the last row", last.patch(0), 0);
        Check.rowOf(last, 0, 0, 5, 5);
        CHECK.due("above it", last.patch(0), 5);
        CHECK.due("above it", last.patch(1), 24);
    }

    /** "how many; the first; -9". */
    private static void patchHowManyAndTheFirst() {
        RugWasField bare = new RugWasField();
        Check.rowOf(bare, 0, 0, 0, 0);
        CHECK.due("everywhere", bare.patch(0), 25);
        CHECK.due("everywhere", bare.patch(1), 0);
        Check.rowOf(bare, 0, 0, 0, 1);
        CHECK.due("nowhere", bare.patch(0), 0);
        CHECK.due("nowhere", bare.patch(1), -9);
        Check.rowOf(bare, 10, 10, 10, 99);
        CHECK.due("more than can be grown", bare.patch(0), 0);
        CHECK.due("the row stays", bare.count(6), 4);
        RugWasField full = Check.of("g00359;");
        Check.rowOf(full, 9, 9, 9, 9);
        CHECK.due("thistles everywhere", full.patch(0), 25);
        for (int at = 0; at < 4; at++) {
            for (int more : new int[] {8, 10, 99}) {
                int[] other = {9, 9, 9, 9};
                other[at] = more;
                Check.rowOf(full, other);
                CHECK.due(more + " is not 9", full.patch(0), 0);
            }
        }
        Check.rowOf(full, 9, 9, 9, 9);
        full.days(1);
        full.makes(0, 0);
        CHECK.due("as it is now", full.patch(0), 24);
        CHECK.due("as it is now", full.patch(1), 1);
    }

    private static void whatWas() {
        whatWasByNoNumbers();
        whatWasBySixteen();
        whatWasByOneNumber();
        whatWasOfOneRolledUp();
        whatWasByWhatItIsNow();
    }

    private static void was(RugWasField x, int yard, int kinds, int figures) {
        CHECK.due("whatWas(" + yard + ", 0)", x.whatWas(yard, 0), kinds);
        CHECK.due("whatWas(" + yard + ", 1)", x.whatWas(yard, 1), figures);
    }

    /** "all of it is so": of no numbers all are, by every KIND (6 bits) and every FIGURE (10 bits). */
    private static void whatWasByNoNumbers() {
        for (char kind : "ptmcfh".toCharArray()) {
            was(Check.of("p" + kind + "90066;g00359;"), 35, 63, 1023);
        }
    }

    /** A ROW of 16, each of which must be so: behind 0 .. 15 DAYS. */
    private static void whatWasBySixteen() {
        int[] piece = {0, 0, 0, 1, 1, 1, 2, 2, 2, 3, 3, 3, 4, 4, 4, 5};
        RugWasField x = Check.of("pp00066;");
        Check.rowOf(x, piece);
        was(x, 35, 1 + 16, 1023);
        RugWasField field = Check.of("pf20066;");
        Check.rowOf(field, piece);
        was(field, 35, 1 + 16, 7);
        RugWasField hole = Check.of("ph00066;");
        Check.rowOf(hole, new int[16]);
        was(hole, 0, 32, 1023);
        for (int wrong = 0; wrong < 16; wrong++) {
            int[] other = piece.clone();
            other[wrong] += 10;
            Check.rowOf(x, other);
            was(x, 35, 0, 0);
        }
    }

    /** "behind 0, 1, .. DAYS": the first number is what is grown now. */
    private static void whatWasByOneNumber() {
        for (int v = 0; v <= 99; v++) {
            RugWasField x = Check.of("pm90011;pp00066;g00007;");
            Check.rowOf(x, v);
            was(x, 0, v == 7 ? 63 : 0, v == 7 ? 1023 : 0);
            was(x, 35, v == 0 ? 63 : 0, v == 0 ? 1023 : 0);
        }
    }

    /** Rolled up it grows by no KIND and by no FIGURE, so each of them is so or none is. */
    private static void whatWasOfOneRolledUp() {
        RugWasField x = Check.of("pm90066;r0;g00004;");
        Check.rowOf(x, 4, 4, 4, 4, 4, 4, 4, 4, 4, 4, 4, 4, 4, 4, 4, 4);
        was(x, 0, 63, 1023);
        Check.rowOf(x, 4, 6);
        was(x, 0, 0, 0);
        x.rolls(0);
        was(x, 0, 4, 3 << 8);
        // It is the YARD's own PIECE that is rolled up or not, whichever else is.
        RugWasField two = Check.of("pm90011;pm90111;r1;");
        Check.rowOf(two, 0, 2);
        was(two, 0, 4, 3 << 8);
        was(two, 1, 0, 0);
        two.rolls(0);
        two.rolls(1);
        was(two, 0, 0, 0);
        was(two, 1, 4, 3 << 8);
        Check.rowOf(two, 0, 0);
        was(two, 0, 63, 1023);
        was(two, 1, 63 - 4 - 8, 15);
    }

    /** The FIGURE and the KIND that stay are those of now, whatever was thought ahead. */
    private static void whatWasByWhatItIsNow() {
        RugWasField x = Check.of("pm90066;");
        Check.rowOf(x, 0, 0);
        was(x, 0, 63 - 4 - 8, 15);
        x.thistles(0, 0);
        x.turn(0, 2, 0);
        was(x, 0, 63, 15);
        x.turn(0, 0, 9);
        was(x, 0, 63 - 4 - 8, 1023);
        x.sold(0, 0);
        Check.rowOf(x, 0, 2);
        was(x, 0, 4, 0);
    }

    private static void judged() {
        judgedByNone();
        judgedAtEachPlace();
    }

    /** "JUDGED; -9 (whichever it answers, the ROW has none then)". */
    private static void judgedByNone() {
        RugWasField x = Check.of("g00359;");
        CHECK.due("no numbers", x.judge(), -9);
        x.row(36);
        CHECK.due("one that is so", x.judge(), -9);
        CHECK.due("none then", x.count(6), 0);
        x.row(35);
        CHECK.due("one that is not", x.judge(), 0);
        for (int more : new int[] {37, 72, 99}) {
            x.row(36);
            x.row(more);
            CHECK.due("more than there can be", x.judge(), 1);
        }
        CHECK.due("none then", x.count(6), 0);
        CHECK.due("no numbers again", x.judge(), -9);
    }

    /** "THISTLES behind 0, 1, .. DAYS: the first that is not so": at each of the 16 places. */
    private static void judgedAtEachPlace() {
        // A turf is thistle behind 12 days.
        int[] right = {0, 0, 0, 0, 0, 0, 0, 0, 0, 0, 0, 0, 4, 4, 4, 4};
        for (int wrong = 0; wrong < 16; wrong++) {
            RugWasField x = Check.of("pt00022;");
            Check.rowOf(x, right);
            CHECK.due("all so", x.judge(), -9);
            int[] other = right.clone();
            other[wrong] = 99;
            Check.rowOf(x, other);
            CHECK.due("not so at " + wrong, x.judge(), wrong);
            for (int later = wrong; later < 16; later++) {
                other[later] = right[later] + 1;
            }
            Check.rowOf(x, other);
            CHECK.due("not so from " + wrong + " on", x.judge(), wrong);
            CHECK.due("none then", x.count(6), 0);
            CHECK.due("nothing goes by", x.count(1) + x.count(2), 0);
        }
    }

    /** Draws below 2 from a seed on, worked out apart from the class. */
    private static final String[][] DRAWS = {{"0", "11011001011110101010"}, {"1", "11101111000110100010"}, {"-1", "10010101110111100110"},
        {"255", "01101010001000011001"}, {"256", "00100110100001010101"}, {"12345", "00001111000100001110"},
        {"2147483647", "10010101110111100110"}, {"-2147483648", "11011001011110101010"}};

    private static void lots() {
        lotsOfOnePiece();
        lotsOfSixPieces();
        lotsOfNone();
    }

    /** "n lands (1 .. 20)", "a DRAW below 2 (1 it is)", "z becomes .. (an int)": seeds from the least int to the greatest. */
    private static void lotsOfOnePiece() {
        RugWasField x = Check.of("pm90066;");
        for (String[] draws : DRAWS) {
            int laid = 0;
            for (int n = 1; n <= 20; n++) {
                laid += draws[1].charAt(n - 1) == '0' ? 1 : 0;
                int z = Integer.parseInt(draws[0]);
                CHECK.due("lots(" + n + ", " + z + ", 0)", x.lots(n, z, 0), 36 * laid);
                CHECK.due("lots(" + n + ", " + z + ", 1)", x.lots(n, z, 1), 324 * laid);
            }
        }
    }

    /** "each PIECE, by numbers": their yards are 16, 8, 4, 2, 1 and a hole's, so that the thistles tell who lies. */
    private static void lotsOfSixPieces() {
        RugWasField x = Check.of("pm90044;pm92424;pm90441;pm92821;pm90511;ph01111;");
        int[] yards = {16, 8, 4, 2, 1, 0};
        for (String[] draws : DRAWS) {
            int thistles = 0;
            for (int draw = 0; draw < 18; draw++) {
                thistles += draws[1].charAt(draw) == '0' ? yards[draw % 6] : 0;
                if (draw % 6 == 5) {
                    int n = draw / 6 + 1;
                    CHECK.due("lots(" + n + ", " + draws[0] + ", 0)", x.lots(n, Integer.parseInt(draws[0]), 0), thistles);
                    CHECK.due("lots(" + n + ", " + draws[0] + ", 1)", x.lots(n, Integer.parseInt(draws[0]), 1), 9 * thistles);
                }
            }
        }
        // "ROLLED up by a DRAW": as they lie now does not matter, and stays.
        int as = x.lots(3, 12345, 1);
        x.rolls(0);
        x.rolls(4);
        CHECK.due("as they are now does not matter", x.lots(3, 12345, 1), as);
        CHECK.due("and stays", x.count(5), 17);
    }

    private static void lotsOfNone() {
        RugWasField bare = new RugWasField();
        CHECK.due("no pieces", bare.lots(20, 0, 0), 0);
        RugWasField full = Check.of("g00359;");
        CHECK.due("all thistle, once", full.lots(1, 0, 0), 36);
        CHECK.due("all thistle", full.lots(20, 0, 0), 720);
        CHECK.due("all grown", full.lots(20, 0, 1), 6480);
        // "then 10 DAYS": a turf on DAY 1 has 8 behind 10 and 9 behind 11, one on DAY 2 has 9 behind 10.
        RugWasField turf = Check.of("d01;pt00011;");
        CHECK.due("by 10 days", turf.lots(1, 256, 1), 8);
        CHECK.due("by 10 days", turf.lots(1, 256, 0), 0);
        turf.days(1);
        turf.makes(0, 0);
        CHECK.due("by 10 days, a day later", turf.lots(1, 256, 1), 9);
    }

    private static void image() {
        imageOfNewLand();
        imageOfAllThatThereIs();
        imageStays();
        imageOfFullLand();
    }

    /** "THE IMAGE is taken: DAY." An empty land can be imaged, too. */
    private static void imageOfNewLand() {
        RugWasField x = new RugWasField();
        String first = Sight.of(x);
        CHECK.due("image()", x.image(), 0);
        Check.tell(x, "pm90066;r0;d60;g00359;");
        CHECK.due("on()", x.on(), 0);
        CHECK.yes("all is as then", Sight.of(x).equals(first));
        CHECK.due("no piece", x.piece(0, 0), -1);
    }

    /** "all that there is, but it, the ROW, letters, REFUSALS". */
    private static void imageOfAllThatThereIs() {
        RugWasField x = Check.of("pm90022;pt30822;r1;g20209;d05;");
        x.row(1);
        x.letter('d');
        x.rolls(9);
        String then = Sight.of(x);
        x.image();
        x.rolls(0);
        x.rolls(1);
        x.turn(0, 5, 0);
        x.turn(1, 4, 9);
        x.treads(1);
        x.makes(35, 9);
        x.days(60);
        CHECK.due("on()", x.on(), 5);
        CHECK.yes("all is as then", Sight.of(x).equals(then));
        x.row(2);
        x.letter('0');
        x.rolls(9);
        x.on();
        CHECK.due("the row is not of it", x.count(6), 2);
        CHECK.due("letters are not of it", x.count(7), 2);
        CHECK.due("refusals are not of it", x.count(11), 2);
        x.letter('1');
        x.letter(';');
        CHECK.due("the letters are those that came", x.land(), 1);
        CHECK.due("DAY", x.count(1), 6);
        CHECK.due("clear()", x.clear(), 2);
        x.on();
        CHECK.due("what is cleared stays so", x.count(6), 0);
        CHECK.due("letters that are no more stay so", x.count(7), 0);
    }

    /** ON from it as often as one likes; another image takes its place. */
    private static void imageStays() {
        RugWasField x = Check.of("pt00066;d02;");
        CHECK.due("image()", x.image(), 2);
        for (int time = 0; time < 3; time++) {
            x.days(1 + time);
            x.makes(0, 9);
            CHECK.due("on()", x.on(), 2);
            CHECK.due("all grown", x.count(2), 36);
        }
        x.days(1);
        CHECK.due("another image()", x.image(), 3);
        x.days(1);
        CHECK.due("image() goes not on", x.count(1), 4);
        CHECK.due("on()", x.on(), 3);
        CHECK.due("all grown", x.count(2), 72);
    }

    private static void imageOfFullLand() {
        RugWasField x = Check.of("d60;".repeat(16) + "d39;");
        Check.tell(x, "pp90011;pt80111;pm70211;pc60311;pf50411;ph40511;g00359;r0;r1;r2;r3;r4;r5;");
        String then = Sight.of(x);
        CHECK.due("image()", x.image(), 999);
        for (int piece = 0; piece < 6; piece++) {
            x.rolls(piece);
            x.turn(piece, 0, 0);
            x.treads(piece);
        }
        CHECK.due("on()", x.on(), 999);
        CHECK.yes("all is as then", Sight.of(x).equals(then));
    }

    private static void counts() {
        countsOfFullLand();
        countsOfAnotherWhat();
    }

    /** Promise 38, each at its most. */
    private static void countsOfFullLand() {
        RugWasField x = Check.of("d60;".repeat(16) + "d39;");
        Check.tell(x, "pp00066;".repeat(6) + "g00359;r0;r1;r2;r3;r4;r5;");
        Check.rowOf(x, new int[16]);
        for (int i = 0; i < 96; i++) {
            x.letter('x');
        }
        int[] wants = {6, 999, 324, 36, 0, 63, 16, 96};
        for (int what = 0; what < wants.length; what++) {
            CHECK.due("count(" + what + ")", x.count(what), wants[what]);
        }
        for (int what = 11; what <= 16; what++) {
            CHECK.due("count(" + what + ")", x.count(what), 0);
        }
    }

    /** "-9 for another what": it is no refusal, and none is counted. */
    private static void countsOfAnotherWhat() {
        RugWasField x = new RugWasField();
        for (int what : new int[] {Integer.MIN_VALUE, -11, -9, -2, -1, 8, 9, 10, 17, 18, 100, Integer.MAX_VALUE}) {
            CHECK.due("count(" + what + ")", x.count(what), -9);
        }
        for (int many : Sight.refusals(x)) {
            CHECK.due("refusals", many, 0);
        }
    }
}
