/** Promises 1 to 3: a new object, letters, and how they become land. */
public final class TellingTest {
    private static final Check CHECK = new Check("TellingTest");

    public static void main(String[] args) {
        newObject();
        letters();
        oddLetters();
        wrongStatements();
        whatComes();
        nothingComesWithAFault();
        landComesToLand();
        CHECK.finish();
    }

    private static void newObject() {
        RugWasField x = new RugWasField();
        for (int what = -1; what <= 17; what++) {
            boolean none = what < 0 || what > 7 && what < 11 || what > 16;
            CHECK.due("new count(" + what + ")", x.count(what), none ? -9 : what == 4 ? 36 : 0);
        }
        for (int yard = 0; yard < 36; yard++) {
            CHECK.due("new yard(" + yard + ", 0)", x.yard(yard, 0), 0);
            CHECK.due("new yard(" + yard + ", 1)", x.yard(yard, 1), -9);
            CHECK.due("new yard(" + yard + ", 2)", x.yard(yard, 2), 1);
        }
        CHECK.due("new piece(0, 0)", x.piece(0, 0), -1);
        CHECK.due("new on()", x.on(), -3);
    }

    private static void letters() {
        RugWasField x = new RugWasField();
        CHECK.due("letter(-1)", x.letter(-1), -4);
        CHECK.due("letter(least int)", x.letter(Integer.MIN_VALUE), -4);
        CHECK.due("letter(256)", x.letter(256), -6);
        CHECK.due("letter(0)", x.letter(0), 1);
        CHECK.due("letter(255)", x.letter(255), 2);
        for (int i = 3; i <= 96; i++) {
            CHECK.due("letter " + i, x.letter('d'), i);
        }
        CHECK.due("letter 97", x.letter('d'), -6);
        CHECK.due("letter(256) when full", x.letter(256), -6);
        CHECK.due("letter(-1) when full", x.letter(-1), -4);
        CHECK.due("letters when full", x.count(7), 96);
        CHECK.due("refusals -4", x.count(14), 3);
        CHECK.due("refusals -6", x.count(16), 3);
        CHECK.due("land of odd letters", x.land(), -1000);
        CHECK.due("no letters behind land", x.count(7), 0);
        CHECK.due("letter behind land", x.letter('d'), 1);
    }

    private static void fault(String text, int want) {
        RugWasField x = new RugWasField();
        CHECK.due("land of \"" + text + "\"", Check.tell(x, text), want);
        CHECK.due("letters behind \"" + text + "\"", x.count(7), 0);
        for (int what = 11; what <= 16; what++) {
            CHECK.due("refusals " + what + " behind \"" + text + "\"", x.count(what), 0);
        }
    }

    private static void oddLetters() {
        fault("", -1000);
        fault("x", -1000);
        fault("P", -1000);
        fault(";", -1000);
        fault("0", -1000);
        String whole = "ph90166;";
        for (int i = 1; i < whole.length(); i++) {
            fault(whole.substring(0, i), -1000 - i);
            fault(whole.substring(0, i) + "z" + whole.substring(i + 1), -1000 - i);
        }
        for (String more : new String[] {"r0;", "t0;", "g00359;", "d60;"}) {
            for (int i = 1; i < more.length(); i++) {
                fault(more.substring(0, i), -1000 - i);
                fault(more.substring(0, i) + "/" + more.substring(i + 1), -1000 - i);
                fault(more.substring(0, i) + ":" + more.substring(i + 1), -1000 - i);
            }
        }
        fault("d01;;", -1004);
        fault("d01;d", -1005);
        fault("d01; d01;", -1004);
        // A letter that is odd comes ahead of a statement that is wrong.
        fault("r0;x", -1003);
        fault("r0;d", -1004);
        fault("pg00011;", -1001);
        fault("p" + (char) 240 + "00011;", -1001);
        for (char kind : "ptmcfh".toCharArray()) {
            fault("p" + kind + "00011;", 1);
        }
        fault("d01;".repeat(24), 24);
        fault("d01;".repeat(23) + "d01", -1095);
        fault("d01;".repeat(23) + "d012", -1095);
        fault("d01;".repeat(21) + "pp000111", -1091);
        fault("g00000;".repeat(8) + "d01;".repeat(10), 18);
        fault("d01;".repeat(23) + "r0;r", -1096);
    }

    private static void wrongStatements() {
        fault("pp03511;", 1);
        fault("pp03611;", -2000);
        fault("pp09911;", -2000);
        fault("pp00001;", -2000);
        fault("pp00010;", -2000);
        fault("pp00066;", 1);
        fault("pp00076;", -2000);
        fault("pp00067;", -2000);
        fault("pp00166;", -2000);
        fault("pp00665;", -2000);
        fault("pp00656;", 1);
        fault("pp00512;", -2000);
        fault("pp00561;", 1);
        fault("pp03021;", -2000);
        fault("pp03016;", 1);
        fault("r0;", -2000);
        fault("t0;", -2000);
        fault("pp00011;r1;", -2008);
        fault("pp00011;t1;", -2008);
        fault("pp00011;t9;", -2008);
        fault("pp00011;r0;t0;", -2011);
        fault("pp00011;r0;r0;t0;", 4);
        fault("pp00011;pp00011;r1;r0;r1;t1;", 6);
        fault("g00350;", 1);
        fault("g35359;", 1);
        fault("g00360;", -2000);
        fault("g36360;", -2000);
        fault("g05040;", -2000);
        fault("d00;", -2000);
        fault("d01;", 1);
        fault("d60;", 1);
        fault("d61;", -2000);
        fault("d01;d61;r0;", -2004);
        fault("d60;".repeat(16) + "d39;", 17);
        fault("d60;".repeat(16) + "d40;", -2064);
        fault("d60;".repeat(17) + "r0;", -2064);
        fault("pp00011;".repeat(6), 6);
        fault("pp00011;".repeat(7), -2048);
        fault("pp00011;".repeat(6) + "r5;t5;", -2051);
        fault("pp00011;".repeat(6) + "r6;", -2048);
        fault("r0;pp00011;", -2000);
    }

    private static void whatComes() {
        RugWasField x = Check.of("pm80022;pt31432;g20217;r1;d04;");
        CHECK.due("DAY", x.count(1), 4);
        CHECK.due("PIECES", x.count(0), 2);
        int[] first = {2, 8, 0, 2, 2, 0, 4};
        int[] second = {1, 3, 14, 3, 2, 1, 6};
        for (int what = 0; what <= 6; what++) {
            CHECK.due("piece(0, " + what + ")", x.piece(0, what), first[what]);
            CHECK.due("piece(1, " + what + ")", x.piece(1, what), second[what]);
        }
        CHECK.due("grown meadow", x.yard(7, 0), 9);
        CHECK.due("grown on what is rolled up", x.yard(20, 0), 7);
        CHECK.due("all grown", x.count(2), 36 + 14);
        RugWasField y = Check.of("pt00022;g00359;t0;d02;g01031;t0;d01;");
        CHECK.due("trod and grown again", y.yard(0, 0), 1);
        CHECK.due("told, trod and grown", y.yard(1, 0), 1);
        CHECK.due("told", y.yard(2, 0), 1);
        CHECK.due("not trod", y.yard(4, 0), 9);
    }

    private static void nothingComesWithAFault() {
        RugWasField x = Check.of("pt30022;d05;");
        int grown = x.count(2);
        CHECK.due("fault far behind", Check.tell(x, "pp00011;r0;g00359;d05;r2;"), -2022);
        CHECK.due("PIECES as ahead", x.count(0), 1);
        CHECK.due("DAY as ahead", x.count(1), 5);
        CHECK.due("GROWN as ahead", x.count(2), grown);
        CHECK.due("ROLLED as ahead", x.count(5), 0);
        CHECK.due("odd letter far behind", Check.tell(x, "pp00011;r0;g00359;d05;r"), -1023);
        CHECK.due("PIECES as ahead", x.count(0), 1);
    }

    private static void landComesToLand() {
        RugWasField x = Check.of("pp00011;pp00011;pp00011;");
        CHECK.due("three more", Check.tell(x, "pp10011;pp20011;pp30011;"), 3);
        CHECK.due("six", x.count(0), 6);
        CHECK.due("the sixth", x.piece(5, 1), 3);
        CHECK.due("no room for a seventh", Check.tell(x, "r0;pp00011;"), -2003);
        CHECK.due("r of an older one", Check.tell(x, "r5;"), 1);
        CHECK.due("ROLLED", x.count(5), 32);
        CHECK.due("t of an older one", Check.tell(x, "t5;"), -2000);
        CHECK.due("r again", Check.tell(x, "r5;t5;"), 2);
        CHECK.due("days", Check.tell(x, "d60;".repeat(16)), 16);
        CHECK.due("days to 999", Check.tell(x, "d40;"), -2000);
        CHECK.due("days to 999", Check.tell(x, "d39;"), 1);
        CHECK.due("DAY", x.count(1), 999);
        CHECK.due("days beyond", Check.tell(x, "d01;"), -2000);
    }
}
