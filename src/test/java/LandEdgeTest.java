import java.util.function.Supplier;

/** Boundary cases of the Terms and of promises 1 to 11, each sentence by itself. What is refused: RefusalTest. */
public final class LandEdgeTest {
    private static final Check CHECK = new Check("LandEdgeTest");
    /** DAY 999 by 68 letters. */
    private static final String TO_THE_LAST_DAY = "d60;".repeat(16) + "d39;";

    public static void main(String[] args) {
        terms();
        letters();
        shapes();
        statements();
        faults();
        growth();
        calls();
        CHECK.finish();
    }

    private static int land(String text) {
        return Check.tell(new RugWasField(), text);
    }

    private static void terms() {
        besideEndsAtTheLandsEdge();
        nineIsThistleAndEightIsNot();
        sixPiecesAtMost();
        notRolledAtFirst();
        belongsToTheLeast();
        dayZeroToTheLast();
    }

    /** "row YARD by 6, column YARD modulo 6; BESIDE: up, left, right, down": nothing wraps around. */
    private static void besideEndsAtTheLandsEdge() {
        RugWasField x = new RugWasField();
        for (int yard = 0; yard < 36; yard++) {
            int row = yard / 6;
            int column = yard % 6;
            int beside = (row > 0 ? 1 : 0) + (row < 5 ? 1 : 0) + (column > 0 ? 1 : 0) + (column < 5 ? 1 : 0);
            CHECK.due("reached(" + yard + ", 1)", x.reached(yard, 1), 1 + beside);
        }
        for (int end = 5; end < 35; end += 6) {
            CHECK.due("steps from a row's end to the next row's first", x.steps(end, end + 1), 6);
        }
        CHECK.due("from the first to the last", x.steps(0, 35), 10);
        CHECK.due("from the last to the first", x.steps(35, 0), 10);
        CHECK.due("from the first row to the last", x.steps(0, 30), 5);
    }

    /** "GROWN 0 .. 9 each (0 at first); with 9 it is THISTLE." */
    private static void nineIsThistleAndEightIsNot() {
        RugWasField x = new RugWasField();
        CHECK.due("all grown at first", x.count(2), 0);
        for (int yard = 0; yard < 36; yard++) {
            x.makes(yard, 8);
        }
        CHECK.due("thistles by 8", x.count(3), 0);
        CHECK.due("open by 8", x.count(4), 36);
        for (int yard = 0; yard < 36; yard++) {
            CHECK.due("open ahead", x.yard(yard, 2), 1);
            x.makes(yard, 9);
            CHECK.due("open as thistle", x.yard(yard, 2), 0);
            CHECK.due("thistles", x.count(3), yard + 1);
            CHECK.due("open ones", x.count(4), 35 - yard);
        }
        CHECK.due("all that can be grown", x.count(2), 324);
        CHECK.due("thistles in thought", x.thistles(0, 0), 36);
        CHECK.due("open ones in thought", x.thistles(0, 1), 0);
    }

    /** "PIECES 0 .. as they come (6 at most)". */
    private static void sixPiecesAtMost() {
        RugWasField x = new RugWasField();
        for (int piece = 0; piece < 6; piece++) {
            CHECK.due("no such piece so far", x.piece(piece, 1), -1);
            CHECK.due("a piece more", Check.tell(x, "pp" + (9 - piece) + "0011;"), 1);
            CHECK.due("as it came", x.piece(piece, 1), 9 - piece);
            CHECK.due("PIECES", x.count(0), piece + 1);
        }
        CHECK.due("a seventh", Check.tell(x, "pp00011;"), -2000);
        CHECK.due("PIECES", x.count(0), 6);
        CHECK.due("no piece 6", x.piece(6, 1), -1);
        CHECK.due("six in one text", land("pp00011;".repeat(6)), 6);
        CHECK.due("seven in one text", land("pp00011;".repeat(7)), -2048);
    }

    /** "ROLLED up or not (not at first)". */
    private static void notRolledAtFirst() {
        RugWasField x = Check.of("pp00011;".repeat(6));
        CHECK.due("none", x.count(5), 0);
        for (int piece = 0; piece < 6; piece++) {
            CHECK.due("not at first", x.piece(piece, 5), 0);
            CHECK.due("rolls(" + piece + ")", x.rolls(piece), 1);
            CHECK.due("bits", x.count(5), (2 << piece) - 1);
        }
        CHECK.due("all six", x.count(5), 63);
        for (int piece = 0; piece < 6; piece++) {
            CHECK.due("not any more, rolls(" + piece + ")", x.rolls(piece), 0);
            CHECK.due("not any more", x.piece(piece, 5), 0);
        }
        CHECK.due("none again", x.count(5), 0);
        // One that comes again where another was rolled up is not so either.
        RugWasField y = new RugWasField();
        y.image();
        Check.tell(y, "pp00011;r0;");
        y.on();
        Check.tell(y, "pp00011;");
        CHECK.due("not at first, either", y.piece(0, 5), 0);
    }

    /** "A YARD BELONGS to the least PIECE that has it, or to none." */
    private static void belongsToTheLeast() {
        RugWasField x = Check.of("pp03511;pp02822;pp00066;pp00011;");
        CHECK.due("the last yard", x.yard(35, 1), 0);
        CHECK.due("beside it", x.yard(34, 1), 1);
        CHECK.due("above it", x.yard(29, 1), 1);
        CHECK.due("around them", x.yard(27, 1), 2);
        CHECK.due("the first yard", x.yard(0, 1), 2);
        x.rolls(0);
        CHECK.due("rolled up it has it still", x.yard(35, 1), 0);
        int[] many = {1, 3, 32, 0};
        for (int piece = 0; piece < 4; piece++) {
            CHECK.due("yards of " + piece, x.piece(piece, 6), many[piece]);
        }
        CHECK.due("none", Check.of("pp03511;").yard(34, 1), -9);
    }

    /** "DAY (0 .. 999; 0 at first)." */
    private static void dayZeroToTheLast() {
        RugWasField x = new RugWasField();
        CHECK.due("DAY at first", x.count(1), 0);
        CHECK.due("to the last day", Check.tell(x, TO_THE_LAST_DAY), 17);
        CHECK.due("DAY", x.count(1), 999);
        CHECK.due("beyond, told", Check.tell(x, "d01;"), -2000);
        CHECK.due("beyond, by days", x.days(1), -6);
        CHECK.due("DAY still", x.count(1), 999);
        CHECK.due("all at once beyond", land("d60;".repeat(16) + "d40;"), -2064);
        RugWasField y = Check.of("d60;".repeat(15) + "d39;");
        CHECK.due("60 more", Check.tell(y, "d60;"), 1);
        CHECK.due("DAY", y.count(1), 999);
    }

    private static void letters() {
        everyLetterIsTaken();
        roomForNinetySix();
        lettersAreNoMore();
    }

    /** "A letter (0 .. 255) comes: how many there are." */
    private static void everyLetterIsTaken() {
        RugWasField x = new RugWasField();
        for (int c = 0; c <= 255; c++) {
            CHECK.due("letter(" + c + ")", x.letter(c), c % 90 + 1);
            if (c % 90 == 89) {
                x.land();
            }
        }
        CHECK.due("letter(-1)", x.letter(-1), -4);
        CHECK.due("letter(256)", x.letter(256), -6);
    }

    /** "(96 at most)": the 96th comes, the 97th does not, and behind land() there is room for 96 again. */
    private static void roomForNinetySix() {
        RugWasField x = new RugWasField();
        for (int time = 0; time < 2; time++) {
            for (int i = 1; i <= 96; i++) {
                CHECK.due("letter " + i, x.letter("d01;".charAt((i - 1) % 4)), i);
            }
            CHECK.due("the 97th", x.letter(';'), -6);
            CHECK.due("letters", x.count(7), 96);
            CHECK.due("land of 96 letters", x.land(), 24);
            CHECK.due("DAY", x.count(1), 24 * (time + 1));
        }
    }

    /** "The letters become LAND, and are no more (with a FAULT neither)". */
    private static void lettersAreNoMore() {
        for (String text : new String[] {"d01;", "d01", "d00;", "x", ""}) {
            RugWasField x = new RugWasField();
            Check.tell(x, text);
            CHECK.due("letters behind \"" + text + "\"", x.count(7), 0);
            CHECK.due("again behind \"" + text + "\"", x.land(), -1000);
            CHECK.due("another land behind \"" + text + "\"", Check.tell(x, "d01;d01;"), 2);
        }
    }

    private static void shapes() {
        atLeastOneStatement();
        everyLetterAtEveryPlace();
        endsAtEveryPlace();
        oddAtEveryStatement();
        firstKindOfFaultComesFirst();
    }

    /** "At least one STATEMENT." */
    private static void atLeastOneStatement() {
        CHECK.due("no letters", land(""), -1000);
        CHECK.due("one statement", land("d01;"), 1);
        CHECK.due("a sign that ends none", land(";"), -1000);
    }

    /** "the place of the first letter with which no LAND can go on": all 256 letters, at each place of each statement. */
    private static void everyLetterAtEveryPlace() {
        String[][] forms = {{"pp00011;", "pK#####;"}, {"r0;", "r#;"}, {"t0;", "t#;"}, {"g00000;", "g#####;"}, {"d01;", "d##;"}};
        for (int c = 0; c <= 255; c++) {
            boolean begins = "prtgd".indexOf(c) >= 0;
            CHECK.due("land of letter " + c + " alone", land("" + (char) c), begins ? -1001 : -1000);
            CHECK.due("letter " + c + " behind a statement", land("d01;" + (char) c), begins ? -1005 : -1004);
            for (String[] form : forms) {
                for (int place = 1; place < form[0].length(); place++) {
                    String text = form[0].substring(0, place) + (char) c + form[0].substring(place + 1);
                    int got = land(text);
                    boolean odd = got <= -1000 && got > -2000;
                    CHECK.yes("letter " + c + " at " + place + " of " + form[0] + " answered " + got,
                        fits(form[1].charAt(place), c) ? !odd : got == -1000 - place);
                }
            }
        }
    }

    private static boolean fits(char sign, int c) {
        return sign == 'K' ? "ptmcfh".indexOf(c) >= 0 : sign == '#' ? c >= '0' && c <= '9' : c == sign;
    }

    /** "(the end, if something lacks)": cut off at every place of a text of 96 letters. */
    private static void endsAtEveryPlace() {
        String text = "pp00011;t0;g00001;d01;".repeat(4) + "r0;d01;" + "x";
        for (int end = 1; end <= 95; end++) {
            String cut = text.substring(0, end);
            int got = land(cut);
            if (cut.endsWith(";")) {
                CHECK.yes("land of " + end + " letters answered " + got, got > 0);
            } else {
                CHECK.due("land of " + end + " letters", got, -1000 - end);
            }
        }
        CHECK.due("the last of 96 is odd", land(text), -1095);
        CHECK.due("96 letters, something lacks", land(text.substring(0, 95) + "d"), -1096);
    }

    /** The place counts all letters ahead, from 0. */
    private static void oddAtEveryStatement() {
        for (int ahead = 0; ahead < 24; ahead++) {
            CHECK.due("odd behind " + ahead, land("d01;".repeat(ahead) + "x"), -1000 - 4 * ahead);
            CHECK.due("wrong behind " + ahead, land("d01;".repeat(ahead) + "d00;"), -2000 - 4 * ahead);
        }
        String most = "pp00011;" + "d01;".repeat(19) + "r0;r0;r0;";
        CHECK.due("the last place of all", land(most + "r1;"), -2093);
        CHECK.due("the last statement of 96 letters", land(most + "r0;"), 24);
    }

    /** "kind 1 ..; else kind 2": an odd letter is told though a wrong statement stands ahead of it. */
    private static void firstKindOfFaultComesFirst() {
        CHECK.due("wrong, then odd", land("d00;x"), -1004);
        CHECK.due("wrong, then something lacks", land("d00;d01"), -1007);
        CHECK.due("wrong, then right", land("d00;d01;"), -2000);
        CHECK.due("two that are wrong", land("d01;d00;r9;"), -2004);
    }

    private static void statements() {
        piecesWithinTheLand();
        kindsAndFigures();
        rolledOrToldAgainNot();
        piecesThatThereAre();
        grownFromTheOneToTheOther();
        daysOneToSixty();
        mostStatements();
        landComesToLand();
    }

    /** "a first YARD, so HIGH, so WIDE (1 .. 6 each, within the land)": all that can be told. */
    private static void piecesWithinTheLand() {
        for (int told = 0; told < 10000; told++) {
            int first = told / 100;
            int high = told / 10 % 10;
            int wide = told % 10;
            boolean within = first <= 35 && high >= 1 && wide >= 1 && first / 6 + high <= 6 && first % 6 + wide <= 6;
            RugWasField x = new RugWasField();
            String text = String.format("pp0%04d;", told);
            CHECK.due("land of " + text, Check.tell(x, text), within ? 1 : -2000);
            if (within) {
                CHECK.due("first of " + text, x.piece(0, 2), first);
                CHECK.due("high of " + text, x.piece(0, 3), high);
                CHECK.due("wide of " + text, x.piece(0, 4), wide);
                CHECK.due("yards of " + text, x.piece(0, 6), high * wide);
                CHECK.due("its last of " + text, x.yard(first + 6 * (high - 1) + wide - 1, 1), 0);
            }
        }
    }

    /** "a letter of a KIND, FIGURE (a digit)". */
    private static void kindsAndFigures() {
        for (int kind = 0; kind < 6; kind++) {
            for (int figure = 0; figure <= 9; figure++) {
                RugWasField x = Check.of("p" + "ptmcfh".charAt(kind) + figure + "0011;");
                CHECK.due("kind", x.piece(0, 0), kind);
                CHECK.due("figure", x.piece(0, 1), figure);
            }
        }
    }

    /** "ROLLED up, or, told again, not", in one text or in another one. */
    private static void rolledOrToldAgainNot() {
        for (int times = 0; times <= 20; times++) {
            RugWasField x = Check.of("pp00011;pp00111;" + "r1;".repeat(times));
            CHECK.due("told " + times + " times", x.count(5), times % 2 == 0 ? 0 : 2);
            CHECK.due("told once more", Check.tell(x, "r1;"), 1);
            CHECK.due("told once more", x.count(5), times % 2 == 0 ? 2 : 0);
        }
        CHECK.due("trod while rolled up", land("pp00011;r0;t0;"), -2011);
        CHECK.due("trod when it is not any more", land("pp00011;r0;r0;t0;"), 4);
        CHECK.due("another one is rolled up", land("pp00011;pp00111;r0;t1;"), 4);
        RugWasField trod = Check.of("pp00022;pp00033;g00359;t1;");
        CHECK.due("all that belongs to it is trod", trod.count(2), 324 - 9 * 5);
        CHECK.due("what belongs to the lesser is not", trod.yard(7, 0), 9);
        for (char kind : "ptmcfh".toCharArray()) {
            RugWasField any = Check.of("p" + kind + "00022;g00359;t0;");
            CHECK.due(kind + " can be trod", any.count(2), 288);
            CHECK.due(kind + " can be rolled up", Check.of("p" + kind + "00022;r0;").count(5), 1);
        }
        CHECK.due("one without yards can be trod", land("pp00011;pp00011;t1;r1;"), 4);
    }

    /** "no such PIECE so far": each digit with each number of pieces. */
    private static void piecesThatThereAre() {
        for (int many = 0; many <= 6; many++) {
            for (int piece = 0; piece <= 9; piece++) {
                String ahead = "pp00011;".repeat(many);
                int want = piece < many ? many + 1 : -2000 - 8 * many;
                CHECK.due("r" + piece + " of " + many, land(ahead + "r" + piece + ";"), want);
                CHECK.due("t" + piece + " of " + many, land(ahead + "t" + piece + ";"), want);
            }
        }
        CHECK.due("it comes behind", land("r0;pp00011;"), -2000);
        CHECK.due("it comes behind", land("pp00011;t1;pp00011;"), -2008);
    }

    /** "two YARDS (2 digits each, the first no more than the other), GROWN (a digit): all from the one to the other". */
    private static void grownFromTheOneToTheOther() {
        for (int told = 0; told < 10000; told++) {
            int one = told / 100;
            int other = told % 100;
            int grown = (one + other) % 9 + 1;
            boolean right = one <= other && other <= 35;
            RugWasField x = new RugWasField();
            CHECK.due("g " + one + " " + other, Check.tell(x, String.format("g%04d%d;", told, grown)), right ? 1 : -2000);
            CHECK.due("all grown", x.count(2), right ? grown * (other - one + 1) : 0);
            if (right) {
                CHECK.due("the one", x.yard(one, 0), grown);
                CHECK.due("the other", x.yard(other, 0), grown);
            }
        }
        for (int grown = 0; grown <= 9; grown++) {
            CHECK.due("grown " + grown, Check.of("g00355;g0035" + grown + ";").count(2), 36 * grown);
        }
    }

    /** "DAYS (2 digits, 1 .. 60)". */
    private static void daysOneToSixty() {
        for (int days = 0; days <= 99; days++) {
            RugWasField x = new RugWasField();
            boolean right = days >= 1 && days <= 60;
            CHECK.due("d" + days, Check.tell(x, String.format("d%02d;", days)), right ? 1 : -2000);
            CHECK.due("DAY", x.count(1), right ? days : 0);
        }
    }

    /** The shortest statements have three letters: 32 of them fill the 96. */
    private static void mostStatements() {
        RugWasField x = Check.of("pp00011;");
        CHECK.due("32 statements", Check.tell(x, "r0;".repeat(32)), 32);
        CHECK.due("told an even number of times", x.count(5), 0);
        CHECK.due("31 and one that is wrong", Check.tell(x, "r0;".repeat(31) + "t0;"), -2093);
        CHECK.due("nothing of them came", x.count(5), 0);
    }

    /** "a PIECE more": what is told again comes to what there is, for as long as there is room. */
    private static void landComesToLand() {
        RugWasField x = Check.of("pp00011;pp00011;pp00011;pp00011;pp00011;");
        CHECK.due("two more", Check.tell(x, "pp00011;pp00011;"), -2008);
        CHECK.due("none came", x.count(0), 5);
        CHECK.due("one more", Check.tell(x, "pp00011;"), 1);
        CHECK.due("all six", x.count(0), 6);
        CHECK.due("days by both", Check.tell(x, "d60;") + Check.tell(x, "d01;"), 2);
        CHECK.due("DAY", x.count(1), 61);
    }

    private static void faults() {
        nothingComesWithAFault();
        faultsAreNotCounted();
    }

    private static RugWasField withPieces() {
        RugWasField x = Check.of("pt30022;pm90822;ph03511;r1;g20209;d05;");
        x.image();
        x.row(7);
        return x;
    }

    /** "with one nothing": each fault behind statements that change all there is. */
    private static void nothingComesWithAFault() {
        String ahead = "r0;t2;pp00011;g00359;d60;r3;";
        String[] wrong = {"r9;", "t9;", "t0;", "d00;", "d61;", "g36360;", "g01009;", "pp00077;", "pp03611;", "x", "d0", "r0"};
        String untouched = Sight.ofAll(LandEdgeTest::withPieces);
        for (String last : wrong) {
            Supplier<RugWasField> refused = () -> {
                RugWasField x = withPieces();
                CHECK.yes("a fault by " + last, Check.tell(x, ahead + last) < 0);
                return x;
            };
            CHECK.yes("nothing comes with " + last, Sight.ofAll(refused).equals(untouched));
        }
    }

    /** "the FAULT (nothing is counted)". */
    private static void faultsAreNotCounted() {
        RugWasField x = withPieces();
        Check.tell(x, "x");
        Check.tell(x, "r9;");
        Check.tell(x, "r1;t1;r1;");
        Check.tell(x, "r0;t0;");
        for (int count : Sight.refusals(x)) {
            CHECK.due("refusals", count, 0);
        }
    }

    private static void growth() {
        kindsByFigure();
        growthOnTheDays();
        nineAtMost();
        whatGrowsNot();
        dayFirstThenGrowth();
        openOrNot();
    }

    private static void kindGrows(char kind, int day, String wants) {
        for (int figure = 0; figure <= 9; figure++) {
            RugWasField x = Check.of("p" + kind + figure + "0011;");
            CHECK.due(kind + " of " + figure + " on DAY " + day, x.grows(0, day), wants.charAt(figure) - '0');
        }
    }

    /** "FIGURE by 4, cut", "half, cut, of a MEADOW's and 1", "FIGURE by 3, cut": by each FIGURE. */
    private static void kindsByFigure() {
        String none = "0000000000";
        String one = "1111111111";
        String two = "2222222222";
        for (int day : new int[] {1, 5, 25, 997}) {
            kindGrows('p', day, none);
            kindGrows('t', day, none);
            kindGrows('m', day, "0000111122");
            kindGrows('c', day, "0000111111");
            kindGrows('f', day, none);
        }
        kindGrows('p', 2, none);
        kindGrows('t', 2, one);
        kindGrows('m', 2, "1111222233");
        kindGrows('c', 2, "1111111122");
        kindGrows('f', 2, none);
        for (int day : new int[] {3, 9, 999}) {
            kindGrows('p', day, one);
            kindGrows('t', day, one);
            kindGrows('m', day, "1111222233");
            kindGrows('c', day, "1111111122");
            kindGrows('f', day, one);
        }
        kindGrows('p', 6, one);
        kindGrows('t', 6, two);
        kindGrows('m', 6, "2222333344");
        kindGrows('c', 6, "1111222222");
        kindGrows('f', 6, one);
        kindGrows('f', 7, "0001112223");
        kindGrows('f', 994, "0001112223");
        kindGrows('f', 21, "1112223334");
        kindGrows('p', 7, none);
        kindGrows('p', 21, one);
        kindGrows('t', 14, one);
        kindGrows('t', 7, none);
        for (int day : new int[] {1, 2, 3, 6, 7, 21, 42, 994, 999}) {
            kindGrows('h', day, none);
        }
    }

    /** "1 on DAYS that 3 divides", "1 more on even DAYS", "on DAYS that 7 divides, besides": over all DAYS. */
    private static void growthOnTheDays() {
        int[] together = new int[3];
        for (int day = 1; day <= 999; day++) {
            RugWasField x = Check.of("pp90011;pt90011;pf30011;");
            for (int piece = 0; piece < 3; piece++) {
                together[piece] += x.grows(piece, day);
            }
        }
        CHECK.due("a piece over 999 days", together[0], 333);
        CHECK.due("a turf over 999 days", together[1], 333 + 499);
        CHECK.due("a field of 3 over 999 days", together[2], 333 + 142);
    }

    /** "(9 at most GROWN)": a meadow of 9 grows by 4 on DAY 6. */
    private static void nineAtMost() {
        for (int grown = 0; grown <= 9; grown++) {
            RugWasField x = Check.of("d05;pm90011;g0000" + grown + ";");
            CHECK.due("in thought from " + grown, x.behind(0, 1), Math.min(9, grown + 4));
            x.days(1);
            CHECK.due("from " + grown, x.yard(0, 0), Math.min(9, grown + 4));
            x.days(60);
            CHECK.due("from " + grown + ", later", x.yard(0, 0), 9);
            CHECK.due("told from " + grown, Check.of("d05;pm90011;g0000" + grown + ";d01;").yard(0, 0), Math.min(9, grown + 4));
        }
    }

    /** "if it is not ROLLED up", "A YARD that BELONGS to none GROWS not", "HOLE: nothing". */
    private static void whatGrowsNot() {
        RugWasField x = Check.of("pm90011;ph90111;pm90111;pm90222;r0;");
        x.days(60);
        CHECK.due("rolled up", x.yard(0, 0), 0);
        CHECK.due("a hole", x.yard(1, 0), 0);
        CHECK.due("of none", x.yard(4, 0) + x.yard(35, 0), 0);
        CHECK.due("what grows", x.yard(2, 0), 9);
        CHECK.due("thistles", x.count(3), 4);
        // One that lies grows not where its yard belongs to a lesser one, rolled up or not.
        RugWasField y = Check.of("pp00011;pm90012;r0;d60;");
        CHECK.due("under one rolled up", y.yard(0, 0), 0);
        CHECK.due("beside it", y.yard(1, 0), 9);
    }

    /** "A DAY: DAY is 1 more; then all GROW by that DAY." */
    private static void dayFirstThenGrowth() {
        RugWasField x = Check.of("pt00011;");
        int[] wants = {0, 0, 1, 2, 3, 3, 5, 5, 6, 7, 8, 8, 9};
        for (int day = 1; day < wants.length; day++) {
            x.days(1);
            CHECK.due("DAY", x.count(1), day);
            CHECK.due("grown on DAY " + day, x.yard(0, 0), wants[day]);
        }
        CHECK.due("all days at once", Check.of("pt00011;d11;").yard(0, 0), 8);
        CHECK.due("all days at once", Check.of("pt00011;d12;").yard(0, 0), 9);
    }

    /** "OPEN: a YARD that is no THISTLE and BELONGS to none, or to a PIECE that is not ROLLED up and no HOLE." */
    private static void openOrNot() {
        RugWasField x = Check.of("pp00011;pp00111;ph00211;ph00311;pp00066;r1;r3;g04049;g05058;");
        int[] wants = {1, 0, 0, 0, 0, 1, 1};
        for (int yard = 0; yard < wants.length; yard++) {
            CHECK.due("yard(" + yard + ", 2)", x.yard(yard, 2), wants[yard]);
        }
        CHECK.due("open ones", x.count(4), 32);
        x.turn(2, 0, 0);
        CHECK.due("a hole no more", x.yard(2, 2), 1);
        x.turn(0, 5, 0);
        CHECK.due("a hole now", x.yard(0, 2), 0);
        x.rolls(4);
        CHECK.due("all the rest rolled up", x.count(4), 1);
        RugWasField y = Check.of("g00008;g01019;");
        CHECK.due("8 of none", y.yard(0, 2), 1);
        CHECK.due("9 of none", y.yard(1, 2), 0);
    }

    private static void calls() {
        makesFromNoneToThistle();
        treadsAllOrNothing();
        turnsToEveryKind();
        turnsNothingButKindAndFigure();
        changesNothingElse();
        daysOneAndSixty();
    }

    /** Promise 7: "GROWN becomes v: what it was." */
    private static void makesFromNoneToThistle() {
        RugWasField x = new RugWasField();
        for (int yard : new int[] {0, 35}) {
            int was = 0;
            for (int v : new int[] {9, 0, 9, 9, 8, 0, 0}) {
                CHECK.due("makes(" + yard + ", " + v + ")", x.makes(yard, v), was);
                CHECK.due("as made", x.yard(yard, 0), v);
                was = v;
            }
        }
        CHECK.due("nothing else", x.count(2), 0);
    }

    /** Promise 9: "TROD: how much was GROWN on it together." */
    private static void treadsAllOrNothing() {
        RugWasField x = Check.of("pp00066;pp00011;g00359;");
        CHECK.due("one without yards", x.treads(1), 0);
        CHECK.due("that treads nothing", x.count(2), 324);
        CHECK.due("all the land", x.treads(0), 324);
        CHECK.due("nothing is left", x.count(2), 0);
        CHECK.due("nothing to tread", x.treads(0), 0);
        RugWasField hole = Check.of("ph00011;g00007;");
        CHECK.due("a hole", hole.treads(0), 7);
        CHECK.due("a hole trod", hole.yard(0, 0), 0);
        for (char kind : "ptmcfh".toCharArray()) {
            CHECK.due(kind + " trod", Check.of("p" + kind + "00022;g00359;").treads(0), 36);
        }
    }

    /** Promise 10: "10 times the KIND and the FIGURE it had." */
    private static void turnsToEveryKind() {
        RugWasField x = Check.of("pp00011;pp00111;");
        int had = 0;
        for (int both = 59; both >= 0; both--) {
            CHECK.due("turn(1, " + both / 10 + ", " + both % 10 + ")", x.turn(1, both / 10, both % 10), had);
            had = both;
        }
        CHECK.due("the other as ahead", x.turn(0, 0, 0), 0);
        CHECK.due("to what it is", x.turn(0, 0, 0), 0);
    }

    /** Promise 10: "KIND, FIGURE become others": all is as if it had been told so; one rolled up stays so. */
    private static void turnsNothingButKindAndFigure() {
        String rest = "pm90833;r0;g00359;g07073;";
        for (int both = 0; both < 60; both++) {
            int kind = both / 10;
            int figure = both % 10;
            String told = "p" + "ptmcfh".charAt(kind) + figure + "0022;" + rest;
            String want = Sight.ofAll(() -> withRowAndLetters(Check.of(told)));
            CHECK.yes("turn(0, " + kind + ", " + figure + ") as told", Sight.ofAll(() -> {
                RugWasField x = Check.of("pt50022;" + rest);
                x.turn(0, kind, figure);
                return withRowAndLetters(x);
            }).equals(want));
        }
    }

    private static RugWasField withRowAndLetters(RugWasField x) {
        x.image();
        return rowAndLetters(x);
    }

    private static RugWasField rowAndLetters(RugWasField x) {
        x.row(x.count(3));
        x.row(x.count(3));
        for (char c : "d01;r1;".toCharArray()) {
            x.letter(c);
        }
        return x;
    }

    /** Promises 7 to 9 and 11: each call does what its statement does, and nothing more to what there is. */
    private static void changesNothingElse() {
        String[][] alike = {{"makes 20 7", "g20207;"}, {"makes 0 0", "g00000;"}, {"makes 35 9", "g35359;"}, {"rolls 0", "r0;"},
            {"rolls 1", "r1;"}, {"rolls 2", "r2;"}, {"treads 0", "t0;"}, {"treads 2", "t2;"}, {"days 1", "d01;"}, {"days 60", "d60;"}};
        String land = "pt50022;pm90733;pf60033;r1;g00354;g20209;d01;";
        for (String[] both : alike) {
            String want = Sight.ofAll(() -> {
                RugWasField x = Check.of(land);
                x.image();
                Check.tell(x, both[1]);
                return rowAndLetters(x);
            });
            CHECK.yes(both[0] + " as " + both[1], Sight.ofAll(() -> {
                RugWasField x = Check.of(land);
                x.image();
                return rowAndLetters(asked(x, both[0]));
            }).equals(want));
        }
        leavesRowAndLetters(land, alike);
    }

    /** The row and the letters that came ahead of a call are there behind it: a patch of the row's numbers is found. */
    private static void leavesRowAndLetters(String land, String[][] alike) {
        for (String[] both : alike) {
            RugWasField x = rowAndLetters(Check.of(land));
            Check.rowOf(x, 1, 2, 3, 4);
            asked(x, both[0]);
            CHECK.due("the row behind " + both[0], x.count(6), 4);
            x.makes(28, 1);
            x.makes(29, 2);
            x.makes(34, 3);
            x.makes(35, 4);
            CHECK.due("as it was behind " + both[0], x.patch(1), 28);
            CHECK.due("letters behind " + both[0], x.count(7), 7);
            CHECK.due("as they were behind " + both[0], x.land(), 2);
        }
    }

    private static RugWasField asked(RugWasField x, String call) {
        String[] words = call.split(" ");
        int[] arguments = new int[words.length - 1];
        for (int i = 0; i < arguments.length; i++) {
            arguments[i] = Integer.parseInt(words[i + 1]);
        }
        CHECK.yes(call + " is taken", Check.call(x, words[0], arguments) >= 0);
        return x;
    }

    /** Promise 11: "n DAYS (1 .. 60) go by: THISTLES." */
    private static void daysOneAndSixty() {
        RugWasField x = Check.of("pt00066;");
        CHECK.due("days(11)", x.days(11), 0);
        CHECK.due("days(1)", x.days(1), 36);
        CHECK.due("days(60)", x.days(60), 36);
        CHECK.due("DAY", x.count(1), 72);
        RugWasField y = new RugWasField();
        CHECK.due("without pieces", y.days(60), 0);
    }
}
