import java.util.ArrayList;
import java.util.Arrays;
import java.util.List;
import java.util.function.Supplier;
import java.util.function.ToIntFunction;

/**
 * REFUSALS: "the call answers the number, the first that fits in the order in which it tells them;
 * nothing changes but how many there were". Each call is made with every combination of the last
 * values that are taken and the first that are not, on land that is new, told, and full.
 */
public final class RefusalTest {
    private static final Check CHECK = new Check("RefusalTest");
    private static final int LEAST = Integer.MIN_VALUE;
    private static final int MOST = Integer.MAX_VALUE;
    private static final long REFUSED_LONG = 4000000000000000000L;
    /** Refusals in the order in which most promises tell them. */
    private static final int[] PLAIN = {-1, -4, -6};
    private static final int[] NUMBER_THEN_WHAT = {-4, -6, -2};

    /** A value of an argument, and the refusal that it asks for; 0: it is taken. */
    private record Value(int v, int refusal) {
    }

    private final String name;
    private final Supplier<RugWasField> made;
    private final String untouched;
    private final int[] refusedAhead;
    private final int pieces;
    private final int rolled;
    private final int day;
    private final int inRow;
    private final int letters;

    private RefusalTest(String name, Supplier<RugWasField> made) {
        this.name = name;
        this.made = made;
        untouched = Sight.ofAll(made);
        refusedAhead = Sight.refusals(made.get());
        RugWasField known = made.get();
        pieces = known.count(0);
        day = known.count(1);
        rolled = known.count(5);
        inRow = known.count(6);
        letters = known.count(7);
    }

    public static void main(String[] args) {
        new RefusalTest("new", RugWasField::new).everyCall();
        new RefusalTest("told", RefusalTest::told).everyCall();
        new RefusalTest("full", RefusalTest::full).everyCall();
        imageOfNothing();
        oftenRefused();
        patchNeedsFour();
        daysToTheLast();
        CHECK.finish();
    }

    /** Three pieces, 1 is rolled up; an image, a row that is as told, letters that are a land. */
    private static RugWasField told() {
        RugWasField x = Check.of("pm80022;pt31433;pf90833;g35359;d02;");
        x.image();
        Check.tell(x, "r1;g30344;d01;");
        trueRow(x, 4);
        letters(x, "r0;g00117;d03;");
        return x;
    }

    /** No room for anything: DAY 999, six pieces (5 is rolled up), 16 in the row, 96 letters. */
    private static RugWasField full() {
        RugWasField x = Check.of("d60;".repeat(16) + "d38;");
        Check.tell(x, "pp00012;pt10112;pm20222;pc30322;pf91433;ph53511;");
        x.image();
        Check.tell(x, "r5;d01;g12139;");
        trueRow(x, 16);
        letters(x, "r1;".repeat(31) + "r2;");
        return x;
    }

    /** As it is so far, judge() finds nothing in it: a change of any of its numbers would show. */
    private static void trueRow(RugWasField x, int length) {
        for (int n = 0; n < length; n++) {
            x.row(x.thistles(n, 0));
        }
    }

    private static void letters(RugWasField x, String text) {
        for (char c : text.toCharArray()) {
            x.letter(c);
        }
    }

    private void everyCall() {
        ofTheLand();
        ofThoughts();
        ofWays();
        ofTheRow();
        neverRefused();
    }

    /** Promises 2 to 11. */
    private void ofTheLand() {
        grid("letter", PLAIN, v -> letters == 96 ? -6 : 0, number(0, 255));
        grid("yard", new int[] {-1, -2}, v -> 0, yards(), whats(2));
        grid("piece", new int[] {-1, -2}, v -> 0, pieces(), whats(6));
        grid("grows", PLAIN, v -> 0, pieces(), number(1, 999));
        grid("makes", PLAIN, v -> 0, yards(), number(0, 9));
        grid("rolls", PLAIN, v -> 0, pieces());
        grid("treads", new int[] {-1, -3}, v -> isRolled(v[0]) ? -3 : 0, pieces());
        grid("turn", new int[] {-1, -2, -4, -6}, v -> 0, pieces(), whats(5), number(0, 9));
        grid("days", PLAIN, v -> day + (long) v[0] > 999 ? -6 : 0, number(1, 60));
    }

    /** Promises 12 to 15 and 21 to 28. */
    private void ofThoughts() {
        grid("behind", PLAIN, v -> 0, yards(), number(0, 99));
        grid("thistles", NUMBER_THEN_WHAT, v -> 0, number(0, 99), whats(1));
        grid("firstThistle", PLAIN, v -> 0, pieces());
        grid("treadings", new int[] {-1, -4, -6, -2, -3}, v -> isRolled(v[0]) ? -3 : 0, pieces(), number(0, 40), whats(1));
        grid("turns", PLAIN, v -> 0, number(0, 99));
        grid("needy", PLAIN, v -> 0, number(0, 99));
        grid("sold", NUMBER_THEN_WHAT, v -> 0, number(0, 99), whats(1));
        grid("hay", PLAIN, v -> 0, pieces());
        grid("same", new int[] {-2}, v -> 0, whats(1));
        grid("edge", PLAIN, v -> 0, pieces());
        grid("rain", new int[] {-1, -4, -6, -2}, v -> 0, yards(), number(0, 8), number(2, 20), whats(1));
        grid("lots", NUMBER_THEN_WHAT, v -> 0, number(1, 20), seeds(), whats(1));
    }

    /** Promises 16 to 20 and 29. */
    private void ofWays() {
        grid("steps", PLAIN, v -> 0, yards(), yards());
        grid("reached", PLAIN, v -> 0, yards(), number(0, 35));
        grid("cut", PLAIN, v -> v[0] == v[1] ? -1 : 0, yards(), yards());
        grid("opens", PLAIN, v -> v[0] == v[1] ? -1 : 0, yards(), yards());
        grid("putAway", PLAIN, v -> 0, yards(), yards(), pieces(), number(1, 36));
        grid("two", PLAIN, v -> v[0] == v[1] || v[2] == v[3] ? -1 : 0, pieces(), pieces(), yards(), yards());
    }

    /** Promises 30 to 32 and 37. */
    private void ofTheRow() {
        grid("patch", new int[] {-2, -3}, v -> inRow != 4 ? -3 : 0, whats(1));
        grid("whatWas", new int[] {-1, -2, -3}, v -> belongsToNone(v[0]) ? -3 : 0, yardsOfSomeAndNone(), whats(1));
        grid("row", PLAIN, v -> inRow == 16 ? -6 : 0, number(0, 99));
        grid("on", new int[] {-3}, v -> name.equals("new") ? -3 : 0);
    }

    private boolean isRolled(int piece) {
        return piece >= 0 && piece < pieces && (rolled >> piece & 1) == 1;
    }

    private boolean belongsToNone(int yard) {
        return yard >= 0 && yard < 36 && made.get().yard(yard, 1) == -9;
    }

    private static List<Value> number(int least, int most) {
        return List.of(new Value(LEAST, -4), new Value(least - 1, -4), new Value(least, 0), new Value(most, 0),
            new Value(most + 1, -6), new Value(MOST, -6));
    }

    private static List<Value> whats(int last) {
        List<Value> all = new ArrayList<>(List.of(new Value(LEAST, -2), new Value(-1, -2), new Value(last + 1, -2), new Value(MOST, -2)));
        for (int what = 0; what <= last; what++) {
            all.add(new Value(what, 0));
        }
        return all;
    }

    private static List<Value> yards() {
        return List.of(new Value(LEAST, -1), new Value(-1, -1), new Value(0, 0), new Value(35, 0), new Value(36, -1), new Value(MOST, -1));
    }

    private static List<Value> yardsOfSomeAndNone() {
        List<Value> all = new ArrayList<>(yards());
        all.add(new Value(5, 0));
        all.add(new Value(14, 0));
        return all;
    }

    /** The first, the last and the one ahead of it, and those beyond on either side. */
    private List<Value> pieces() {
        List<Value> all = new ArrayList<>();
        for (int piece : new int[] {LEAST, -1, 0, pieces - 2, pieces - 1, pieces, 6, MOST}) {
            Value value = new Value(piece, piece < 0 || piece >= pieces ? -1 : 0);
            if (!all.contains(value)) {
                all.add(value);
            }
        }
        return all;
    }

    private static List<Value> seeds() {
        return List.of(new Value(LEAST, 0), new Value(-1, 0), new Value(0, 0), new Value(MOST, 0));
    }

    /** The call with all combinations; state tells the refusal that the land itself or two arguments together ask for. */
    @SafeVarargs
    private void grid(String call, int[] order, ToIntFunction<int[]> state, List<Value>... arguments) {
        int all = 1;
        for (List<Value> values : arguments) {
            all *= values.size();
        }
        for (int combination = 0; combination < all; combination++) {
            int[] v = new int[arguments.length];
            List<Integer> fitting = new ArrayList<>();
            int rest = combination;
            for (int i = 0; i < v.length; i++) {
                Value value = arguments[i].get(rest % arguments[i].size());
                rest /= arguments[i].size();
                v[i] = value.v();
                fitting.add(value.refusal());
            }
            fitting.add(state.applyAsInt(v));
            look(call, v, firstOf(order, fitting));
        }
    }

    private static int firstOf(int[] order, List<Integer> fitting) {
        for (int number : order) {
            if (fitting.contains(number)) {
                return number;
            }
        }
        return 0;
    }

    private void look(String call, int[] v, int refusal) {
        String told = name + " " + call + Arrays.toString(v);
        RugWasField x = made.get();
        long got = Check.call(x, call, v);
        int[] many = refusedAhead.clone();
        if (refusal == 0) {
            CHECK.yes(told + " is taken, answered " + got, got == -9 || got >= 0 && got < REFUSED_LONG);
        } else {
            CHECK.due(told, got, call.equals("rain") ? REFUSED_LONG - refusal : refusal);
            many[-refusal - 1]++;
            CHECK.yes(told + " changes nothing", Sight.ofAll(() -> refusedOnce(call, v)).equals(untouched));
        }
        CHECK.yes(told + ": how many refusals " + Arrays.toString(Sight.refusals(x)), Arrays.equals(Sight.refusals(x), many));
    }

    private RugWasField refusedOnce(String call, int[] v) {
        RugWasField x = made.get();
        Check.call(x, call, v);
        return x;
    }

    /** Calls that tell no refusal: whatever they answer, none is counted. */
    private void neverRefused() {
        RugWasField x = made.get();
        for (int what : new int[] {LEAST, -1, 0, 7, 8, 9, 10, 11, 16, 17, MOST}) {
            x.count(what);
        }
        x.longest();
        x.image();
        x.judge();
        x.judge();
        x.clear();
        x.land();
        CHECK.due(name + " land without letters", x.land(), -1000);
        CHECK.due(name + " land with a wrong statement", Check.tell(x, "r9;"), -2000);
        CHECK.yes(name + ": none is refused", Arrays.equals(Sight.refusals(x), refusedAhead));
    }

    /** "-3 there is none": refused until one is taken, and never more. */
    private static void imageOfNothing() {
        RugWasField x = new RugWasField();
        CHECK.due("on()", x.on(), -3);
        CHECK.due("on() again", x.on(), -3);
        CHECK.due("image()", x.image(), 0);
        CHECK.due("on() then", x.on(), 0);
        CHECK.due("on() once more", x.on(), 0);
        CHECK.due("refusals -3", x.count(13), 2);
    }

    /** Each number is counted by itself, and as far as an object's calls go. */
    private static void oftenRefused() {
        RugWasField x = new RugWasField();
        for (int i = 0; i < 500; i++) {
            CHECK.due("rolls(0)", x.rolls(0), -1);
        }
        x.rain(36, 0, 2, 0);
        x.same(2);
        x.patch(0);
        x.days(0);
        x.days(61);
        CHECK.yes("each by itself", Arrays.equals(Sight.refusals(x), new int[] {501, 1, 1, 1, 0, 1}));
    }

    /** "-3 not four numbers": every length but four. */
    private static void patchNeedsFour() {
        for (int length = 0; length <= 16; length++) {
            RugWasField x = new RugWasField();
            Check.rowOf(x, new int[length]);
            CHECK.due("patch(0) by " + length, x.patch(0), length == 4 ? 25 : -3);
            CHECK.due("patch(1) by " + length, x.patch(1), length == 4 ? 0 : -3);
            CHECK.due("patch(2) by " + length, x.patch(2), -2);
            CHECK.due("it stays", x.count(6), length);
        }
    }

    /** "-6 (60; DAY above 999)": from each of the last days as many as there are left, and one more. */
    private static void daysToTheLast() {
        RugWasField x = Check.of("d60;".repeat(15) + "d39;");
        x.image();
        for (int left = 60; left >= 0; left--) {
            CHECK.due("days(" + (left + 1) + ") with " + left + " left", x.days(left + 1), -6);
            if (left > 0) {
                CHECK.due("days(" + left + ")", x.days(left), 0);
                CHECK.due("DAY", x.count(1), 999);
                x.on();
                CHECK.due("days(1)", x.days(1), 0);
                x.image();
            }
            CHECK.due("DAY", x.count(1), left > 0 ? 1000 - left : 999);
        }
        CHECK.due("refusals -6", x.count(16), 61);
    }
}
