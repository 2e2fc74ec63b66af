import java.util.List;
import java.util.function.UnaryOperator;

/**
 * What was thought, told with a fault, or imaged ahead of a call leaves no mark on it: "In mind",
 * "with one nothing", "THE IMAGE: all that there is, but it". Each call answers as on an object without that.
 */
public final class ForgetTest {
    private static final Check CHECK = new Check("ForgetTest");
    /** One with a piece rolled up, one without any that is never thistle, one without pieces. */
    private static final String[] LANDS = {"pm90022;pt30823;pf61933;pc42822;r1;g04049;g21237;g35359;d05;",
        "pt00022;pp00822;pm93511;g04049;d01;", "g00079;"};
    private static final String[] THOUGHTS = {"lots 20 3 0", "lots 1 256 0", "lots 1 0 0", "sold 99 0", "turns 99", "needy 60",
        "two 0 2 0 34", "cut 0 34", "opens 8 9", "putAway 34 5 0 9"};
    private static final List<String> CALLS = List.of("yard 0 0", "yard 14 1", "yard 8 2", "piece 0 0", "piece 1 1", "piece 2 2",
        "piece 1 3", "piece 1 4", "piece 1 5", "piece 2 6", "piece 4 0", "piece 3 0", "grows 2 7", "grows 0 6", "grows 4 1", "makes 4 1",
        "rolls 1", "rolls 0", "rolls 4", "treads 0", "treads 1", "treads 4", "turn 2 3 8", "turn 4 0 0", "days 1", "days 60",
        "behind 0 1", "behind 8 9", "behind 21 2", "thistles 3 0", "thistles 9 1", "firstThistle 0", "firstThistle 1", "firstThistle 2",
        "firstThistle 4", "longest", "steps 0 34", "steps 2 26", "reached 0 35", "reached 8 4", "reached 25 3", "cut 0 34", "cut 0 20",
        "opens 2 14", "opens 8 20", "putAway 0 20 2 6", "putAway 0 34 0 1", "putAway 0 34 4 9", "treadings 0 40 0", "treadings 0 40 1",
        "treadings 1 40 0", "treadings 2 40 0", "treadings 2 40 1", "treadings 4 0 0", "turns 0", "turns 5", "turns 99", "needy 0",
        "needy 2", "needy 5", "sold 0 0", "sold 0 1", "sold 4 0", "sold 4 1", "sold 99 1", "hay 0", "hay 2", "hay 4", "same 0", "same 1",
        "edge 0", "edge 2", "edge 3", "edge 4", "hay 3", "piece 3 6", "putAway 0 9 1 4",
        "putAway 24 34 3 5", "whatWas 35 0", "whatWas 35 1",
        "rain 0 1 2 0", "rain 21 2 3 0", "rain 21 8 20 1", "two 0 1 0 34", "two 1 2 8 26", "two 4 0 0 34",
        "two 0 4 0 34", "patch 0", "patch 1", "whatWas 0 0", "whatWas 0 1", "whatWas 8 0", "whatWas 8 1", "whatWas 21 0", "whatWas 5 0",
        "judge", "clear", "lots 1 256 0", "lots 3 7 1", "lots 20 -5 1", "count 0", "count 1", "count 2", "count 3", "count 4", "count 5",
        "count 6", "count 7", "land", "letter 0", "row 5", "image");

    public static void main(String[] args) {
        for (String land : LANDS) {
            new ForgetTest(land).everyCall();
        }
        CHECK.finish();
    }

    private final String land;

    private ForgetTest(String land) {
        this.land = land;
    }

    private void everyCall() {
        behind("a land with a fault", x -> told(x, "pm00011;pt90066;r0;r1;g00359;d60;r9;"));
        behind("a land whose fault is at its first", x -> told(x, "r9;"));
        behind("a land of odd letters", x -> told(x, "pm00066;r0;x"));
        for (String thought : THOUGHTS) {
            behind(thought, x -> asked(x, thought));
        }
        behind("an image that was gone back to", ForgetTest::andBack);
        imagedAhead();
        imagedAheadOfChanges();
        changedSinceTheLastThought();
    }

    private RugWasField plain() {
        return withRow(told(new RugWasField()));
    }

    private RugWasField told(RugWasField x) {
        Check.tell(x, land);
        return x;
    }

    /** The row fits as a patch where all is thistle. */
    private static RugWasField withRow(RugWasField x) {
        Check.rowOf(x, 9, 9, 9, 9);
        return x;
    }

    private static RugWasField told(RugWasField x, String text) {
        CHECK.yes("a fault in " + text, Check.tell(x, text) < 0);
        return x;
    }

    private static RugWasField asked(RugWasField x, String call) {
        answer(x, call);
        return x;
    }

    private static RugWasField andBack(RugWasField x) {
        x.image();
        Check.tell(x, "pm00055;ph00011;r0;r1;g00303;d60;");
        changed(x);
        x.thistles(50, 0);
        x.on();
        return x;
    }

    /** As far as there are pieces 0, 1 and 3; what is refused is so on both objects. */
    private static RugWasField changed(RugWasField x) {
        x.turn(0, 5, 1);
        x.turn(1, 2, 9);
        x.turn(3, 2, 9);
        x.rolls(1);
        x.rolls(2);
        x.makes(35, 9);
        x.makes(28, 0);
        x.days(1);
        return x;
    }

    /** An image of bare land, taken at first, on one object, and none on the other. */
    private void imagedAhead() {
        for (String call : CALLS) {
            RugWasField x = new RugWasField();
            x.image();
            look("an image of bare land", call, withRow(told(x)), plain());
        }
    }

    /** An image of the land as it was told on one object, and none on the other; both are changed then. */
    private void imagedAheadOfChanges() {
        for (String call : CALLS) {
            look("an image of the land ahead of changes", call, changed(asked(plain(), "image")), changed(plain()));
        }
    }

    /** The one has thought ahead of the changes alone, the other behind them. */
    private void changedSinceTheLastThought() {
        for (String call : CALLS) {
            look("changes", call, changed(asked(plain(), "thistles 0 0")), asked(changed(plain()), "thistles 0 0"));
        }
    }

    private void behind(String what, UnaryOperator<RugWasField> ahead) {
        for (String call : CALLS) {
            look(what, call, ahead.apply(plain()), plain());
        }
    }

    private static void look(String what, String call, RugWasField x, RugWasField fresh) {
        CHECK.due("behind " + what + ": " + call, answer(x, call), answer(fresh, call));
        CHECK.yes("behind " + what + " all is alike by " + call, Sight.of(x).equals(Sight.of(fresh)));
    }

    private static long answer(RugWasField x, String call) {
        String[] words = call.split(" ");
        int[] arguments = new int[words.length - 1];
        for (int i = 0; i < arguments.length; i++) {
            arguments[i] = Integer.parseInt(words[i + 1]);
        }
        return Check.call(x, words[0], arguments);
    }
}
