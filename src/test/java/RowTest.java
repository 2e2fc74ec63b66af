/** Promises 30 to 38: the row and what is told by it, lots, the image, what is counted. */
public final class RowTest {
    private static final Check CHECK = new Check("RowTest");

    public static void main(String[] args) {
        patch();
        whatWas();
        row();
        judge();
        lots();
        image();
        count();
        CHECK.finish();
    }

    private static void patch() {
        RugWasField x = Check.of("g07071;g08082;g13133;g14144;");
        CHECK.due("no row", x.patch(0), -3);
        CHECK.due("no row, another what", x.patch(2), -2);
        Check.rowOf(x, 1, 2, 3, 4);
        CHECK.due("once", x.patch(0), 1);
        CHECK.due("there", x.patch(1), 7);
        CHECK.due("the row stays", x.count(6), 4);
        Check.rowOf(x, 0, 0, 0, 1);
        CHECK.due("once", x.patch(1), 0);
        Check.rowOf(x, 4, 0, 0, 0);
        CHECK.due("once", x.patch(1), 14);
        Check.rowOf(x, 0, 0, 0, 0);
        CHECK.due("often", x.patch(0), 25 - 9);
        CHECK.due("first", x.patch(1), 3);
        Check.rowOf(x, 1, 3, 2, 4);
        CHECK.due("never", x.patch(0), 0);
        CHECK.due("never", x.patch(1), -9);
        // A patch goes not over the land's edge: 11 and 12 are not beside each other.
        RugWasField y = Check.of("g11129;g17189;");
        Check.rowOf(y, 9, 9, 9, 9);
        CHECK.due("over the edge", y.patch(0), 0);
        Check.rowOf(x, 1, 2, 3);
        CHECK.due("three", x.patch(0), -3);
        Check.rowOf(x, 1, 2, 3, 4, 5);
        CHECK.due("five", x.patch(1), -3);
        CHECK.due("patch(-1)", x.patch(-1), -2);
    }

    private static void was(RugWasField x, int yard, int kinds, int figures) {
        CHECK.due("whatWas(" + yard + ", 0)", x.whatWas(yard, 0), kinds);
        CHECK.due("whatWas(" + yard + ", 1)", x.whatWas(yard, 1), figures);
    }

    private static void whatWas() {
        kindsByOwnFigure();
        figuresByOwnKind();
        whatWasOfOtherDays();
        whatWasOfTheLeastPiece();
        whatWasRolledUp();
        whatWasRefused();
    }

    /** A new object whose one piece, of all land, is of that kind and figure, with that row. */
    private static RugWasField lone(String kind, int figure, int... numbers) {
        RugWasField x = Check.of("p" + kind + figure + "0066;");
        Check.rowOf(x, numbers);
        return x;
    }

    private static void kindsByOwnFigure() {
        // The run: by a figure of 9 a meadow grows 2 on day 1, a common 1.
        was(lone("m", 9, 0, 0), 0, 63 - 4 - 8, 15);
        // By a figure of 0 it is as a turf, which grows on day 2; a common then has half of 2.
        was(lone("m", 0, 0, 0), 0, 63, 15);
        was(lone("m", 0, 0, 0, 1), 0, 2 + 4 + 8, 15);
        // 1 on day 1: a meadow of 4 .. 7, a common of 4 .. 9, whichever of them it is.
        was(lone("p", 4, 0, 1), 0, 4 + 8, 0);
        was(lone("p", 8, 0, 1), 0, 8, 0);
        was(lone("p", 3, 0, 1), 0, 0, 0);
        was(lone("m", 4, 0, 1), 0, 4 + 8, 15 << 4);
        was(lone("m", 8, 0, 1), 0, 8, 15 << 4);
        was(lone("c", 8, 0, 1), 0, 8, 63 << 4);
        was(lone("c", 3, 0, 1), 0, 0, 63 << 4);
        // 1 more than a piece on day 7: a field of 3 .. 5.
        was(lone("f", 3, 0, 0, 0, 1, 1, 1, 2, 3), 0, 16, 7 << 3);
        was(lone("f", 9, 0, 0, 0, 1, 1, 1, 2, 3), 0, 0, 7 << 3);
        was(lone("p", 5, 0, 0, 0, 1, 1, 1, 2, 3), 0, 16, 0);
        was(lone("p", 2, 0, 0, 0, 1, 1, 1, 2, 2), 0, 1 + 16, 1023);
    }

    private static void figuresByOwnKind() {
        // The other run: a piece grows 0 on day 1 by every figure.
        was(lone("p", 0, 0, 1), 0, 0, 0);
        was(lone("p", 0, 0, 0), 0, 63, 1023);
        was(lone("t", 9, 0, 0, 1, 2), 0, 2, 1023);
        was(lone("m", 9, 0, 2, 5), 0, 4, 3 << 8);
        was(lone("m", 0, 0, 2, 5), 0, 0, 3 << 8);
        was(lone("c", 9, 0, 1, 3), 0, 8, 3 << 8);
        was(lone("c", 7, 0, 1, 2), 0, 8, 15 << 4);
        was(lone("f", 0, 0, 0, 0, 1, 1, 1, 2, 5), 0, 0, 1 << 9);
        was(lone("f", 8, 0, 0, 0, 1), 0, 1 + 16, 1023);
        was(lone("h", 8, 0, 0, 0, 0), 0, 32, 1023);
        was(lone("h", 8, 0, 1), 0, 8, 0);
        // Without numbers all of it is so.
        was(lone("c", 5), 35, 63, 1023);
    }

    private static void whatWasOfOtherDays() {
        // From day 5 on: day 6 by 1 (a turf 2), day 7 by a third of a field's figure.
        RugWasField x = Check.of("d05;pf60066;");
        Check.rowOf(x, 0, 1, 3);
        was(x, 20, 16, 7 << 6);
        Check.rowOf(x, 0, 2, 2);
        was(x, 20, 2, 0);
        // Beyond the last day, in thought: 1001 is divided by 7, 1002 by 2 and 3.
        RugWasField y = Check.of("d60;d60;d60;d60;d60;d60;d60;d60;d60;d60;d60;d60;d60;d60;d60;d60;d39;pf30066;");
        Check.rowOf(y, 0, 0, 1, 2);
        was(y, 0, 16, 7 << 3);
        CHECK.due("DAY as ahead", y.count(1), 999);
        // 9 is the most: behind it all that grow are alike.
        RugWasField z = lone("m", 8, 9, 9, 9);
        z.makes(3, 9);
        was(z, 3, 63, 1023);
        z.makes(3, 8);
        Check.rowOf(z, 8, 9, 9);
        was(z, 3, 4 + 8, 63 << 4);
        Check.rowOf(z, 8, 10);
        was(z, 3, 0, 0);
    }

    private static void whatWasOfTheLeastPiece() {
        RugWasField x = Check.of("pm80011;pp30022;g01014;");
        Check.rowOf(x, 0, 2);
        was(x, 0, 4, 3 << 8);
        was(x, 7, 0, 0);
        Check.rowOf(x, 4, 4, 4, 5);
        was(x, 0, 0, 0);
        was(x, 1, 1 + 16, 1023);
        CHECK.due("the row stays", x.count(6), 4);
        CHECK.due("kind and figure as ahead", 10 * x.piece(0, 0) + x.piece(0, 1), 28);
        CHECK.due("kind and figure as ahead", 10 * x.piece(1, 0) + x.piece(1, 1), 3);
        CHECK.due("grown as ahead", x.count(2), 4);
        // By what it is now, not by what it was told as.
        x.turn(0, 3, 4);
        Check.rowOf(x, 0, 1);
        was(x, 0, 4 + 8, 63 << 4);
    }

    private static void whatWasRolledUp() {
        RugWasField x = lone("m", 9, 0, 0, 0, 0);
        was(x, 0, 32, 0);
        x.rolls(0);
        was(x, 0, 63, 1023);
        Check.rowOf(x, 0, 2);
        was(x, 0, 0, 0);
        x.rolls(0);
        was(x, 0, 4, 3 << 8);
    }

    private static void whatWasRefused() {
        RugWasField x = Check.of("pm80011;");
        CHECK.due("whatWas(36, 2)", x.whatWas(36, 2), -1);
        CHECK.due("whatWas(-1, 0)", x.whatWas(-1, 0), -1);
        CHECK.due("whatWas(2, 2)", x.whatWas(2, 2), -2);
        CHECK.due("whatWas(2, -1)", x.whatWas(2, -1), -2);
        CHECK.due("whatWas(2, 0)", x.whatWas(2, 0), -3);
        CHECK.due("whatWas(2, 1)", x.whatWas(2, 1), -3);
        CHECK.due("refusals -1", x.count(11), 2);
        CHECK.due("refusals -2", x.count(12), 2);
        CHECK.due("refusals -3", x.count(13), 2);
    }

    private static void row() {
        RugWasField x = new RugWasField();
        CHECK.due("clear()", x.clear(), 0);
        CHECK.due("row(-1)", x.row(-1), -4);
        CHECK.due("row(100)", x.row(100), -6);
        for (int i = 1; i <= 16; i++) {
            CHECK.due("row " + i, x.row(i % 2 == 0 ? 0 : 99), i);
        }
        CHECK.due("row 17", x.row(0), -6);
        CHECK.due("row(-1) when full", x.row(-1), -4);
        CHECK.due("in the row", x.count(6), 16);
        CHECK.due("clear()", x.clear(), 16);
        CHECK.due("clear() again", x.clear(), 0);
        CHECK.due("row(5)", x.row(5), 1);
    }

    private static void judge() {
        RugWasField x = Check.of("pm80022;g35359;");
        CHECK.due("no row", x.judge(), -9);
        Check.rowOf(x, 1, 1, 1, 1, 5, 5);
        CHECK.due("all so", x.judge(), -9);
        CHECK.due("no row then", x.count(6), 0);
        Check.rowOf(x, 1, 1, 1, 1, 4, 4);
        CHECK.due("the fifth", x.judge(), 4);
        CHECK.due("no row then", x.count(6), 0);
        Check.rowOf(x, 0, 1, 1, 1, 4);
        CHECK.due("the first", x.judge(), 0);
        Check.rowOf(x, 1, 1, 1, 1, 5, 5, 5, 5, 5, 5, 5, 5, 5, 5, 5, 6);
        CHECK.due("the last", x.judge(), 15);
        CHECK.due("nothing goes by", x.count(1), 0);
    }

    private static void lots() {
        CHECK.due("without pieces", Check.of("g00019;").lots(20, 5, 0), 40);
        CHECK.due("without pieces", Check.of("g00018;").lots(20, 5, 1), 320);
        RugWasField x = Check.of("pm80022;pt01422;ph00011;g35359;r0;");
        for (int z : new int[] {0, 1, 7, -1, 123456789, Integer.MIN_VALUE, Integer.MAX_VALUE}) {
            for (int n : new int[] {1, 2, 20}) {
                long thistles = 0;
                long grown = 0;
                long seed = z;
                for (int lot = 0; lot < n; lot++) {
                    thistles += 1;
                    grown += 9;
                    for (int piece = 0; piece < 3; piece++) {
                        seed = (int) (seed * 1664525 + 1013904223);
                        boolean rolled = ((seed & 0x7fffffffL) >> 8) % 2 == 1;
                        thistles += piece == 0 && !rolled ? 4 : 0;
                        grown += rolled || piece == 2 ? 0 : piece == 0 ? 36 : 32;
                    }
                }
                CHECK.due("lots(" + n + ", " + z + ", 0)", x.lots(n, z, 0), thistles);
                CHECK.due("lots(" + n + ", " + z + ", 1)", x.lots(n, z, 1), grown);
            }
        }
        CHECK.due("rolled as ahead", x.count(5), 1);
        // A turf from day 1 on has 8 behind 10 days and 9 behind 11, if the draw leaves it laid out.
        RugWasField y = Check.of("d01;pt00066;");
        int laid = 0;
        for (int z = 0; z < 20; z++) {
            boolean rolled = ((z * 1664525 + 1013904223) >> 8 & 1) == 1;
            CHECK.due("ten days of lots(1, " + z + ", 1)", y.lots(1, z, 1), rolled ? 0 : 36 * 8);
            laid += rolled ? 0 : 1;
        }
        CHECK.yes("some are laid out, some not", laid > 0 && laid < 20);
        CHECK.due("lots(0, 0, 2)", x.lots(0, 0, 2), -4);
        CHECK.due("lots(-1, 0, 0)", x.lots(-1, 0, 0), -4);
        CHECK.due("lots(21, 0, 2)", x.lots(21, 0, 2), -6);
        CHECK.due("lots(20, 0, 2)", x.lots(20, 0, 2), -2);
        CHECK.due("lots(20, 0, -1)", x.lots(20, 0, -1), -2);
    }

    private static void image() {
        RugWasField x = new RugWasField();
        CHECK.due("on() without", x.on(), -3);
        Check.tell(x, "pm80022;pt31422;r1;d02;");
        CHECK.due("image()", x.image(), 2);
        Check.tell(x, "ph00011;r0;r1;");
        x.turn(0, 5, 1);
        x.makes(35, 9);
        x.days(9);
        x.row(3);
        x.letter('x');
        CHECK.due("on()", x.on(), 2);
        CHECK.due("PIECES", x.count(0), 2);
        CHECK.due("DAY", x.count(1), 2);
        CHECK.due("GROWN", x.count(2), 20);
        CHECK.due("ROLLED", x.count(5), 2);
        CHECK.due("KIND", x.piece(0, 0), 2);
        CHECK.due("FIGURE", x.piece(0, 1), 8);
        CHECK.due("yards of piece 0", x.piece(0, 6), 4);
        CHECK.due("the ROW is not of it", x.count(6), 1);
        CHECK.due("letters are not of it", x.count(7), 1);
        CHECK.due("refusals are not of it", x.count(13), 1);
        x.days(5);
        x.treads(0);
        CHECK.due("on() again", x.on(), 2);
        CHECK.due("GROWN again", x.count(2), 20);
        x.days(1);
        CHECK.due("a new image()", x.image(), 3);
        x.days(1);
        CHECK.due("on()", x.on(), 3);
        RugWasField y = new RugWasField();
        CHECK.due("image of land without pieces", y.image(), 0);
        Check.tell(y, "pp00066;d60;");
        CHECK.due("on() from it", y.on(), 0);
        CHECK.due("PIECES", y.count(0), 0);
        CHECK.due("belongs to none", y.yard(0, 1), -9);
        CHECK.due("a piece comes as the first", Check.tell(y, "pt10011;"), 1);
        CHECK.due("a piece comes as the first", y.piece(0, 0), 1);
    }

    private static void count() {
        RugWasField x = Check.of("pm80022;ph01411;pp03511;r0;r2;d03;g04089;");
        x.row(1);
        x.letter(1);
        x.letter(1);
        int[] wants = {3, 3, 45, 5, 36 - 4 - 1 - 1 - 5 + 2, 5, 1, 2, -9, -9, -9};
        for (int what = 0; what < wants.length; what++) {
            CHECK.due("count(" + what + ")", x.count(what), wants[what]);
        }
        x.yard(36, 0);
        x.yard(0, 3);
        x.yard(0, 3);
        for (int i = 0; i < 3; i++) {
            x.treads(0);
        }
        for (int i = 0; i < 4; i++) {
            x.days(0);
        }
        for (int i = 0; i < 6; i++) {
            x.days(61);
        }
        int[] refusals = {1, 2, 3, 4, 0, 6};
        for (int i = 0; i < 6; i++) {
            CHECK.due("count(" + (11 + i) + ")", x.count(11 + i), refusals[i]);
        }
        for (int what : new int[] {-1, 8, 10, 17, Integer.MIN_VALUE, Integer.MAX_VALUE}) {
            CHECK.due("count(" + what + ")", x.count(what), -9);
        }
        CHECK.due("count(12) is as it was", x.count(12), 2);
    }
}
