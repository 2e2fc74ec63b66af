import java.util.function.Supplier;

/**
 * All that can be seen of an object, as a text: two objects that look alike are alike.
 * What shows only when it is used up (the row, the letters) or gone back to (the image)
 * is looked at on objects of its own, made anew.
 */
final class Sight {
    private Sight() {
    }

    /** What is there now; no call of it is refused. */
    static String of(RugWasField x) {
        StringBuilder seen = new StringBuilder();
        for (int what = 0; what <= 7; what++) {
            seen.append(x.count(what)).append(' ');
        }
        for (int yard = 0; yard < 36; yard++) {
            seen.append('|').append(x.yard(yard, 0)).append(' ').append(x.yard(yard, 1)).append(' ').append(x.yard(yard, 2));
        }
        for (int piece = 0; piece < x.count(0); piece++) {
            for (int what = 0; what <= 6; what++) {
                seen.append(what == 0 ? '/' : ' ').append(x.piece(piece, what));
            }
        }
        return seen.toString();
    }

    /** How many refusals of each number there were: -1 first. */
    static int[] refusals(RugWasField x) {
        int[] many = new int[6];
        for (int i = 0; i < many.length; i++) {
            many[i] = x.count(11 + i);
        }
        return many;
    }

    /** The land, the row, the letters and the image of the object that is made. */
    static String ofAll(Supplier<RugWasField> made) {
        return of(made.get()) + "\nrow " + made.get().judge() + "\nletters " + ofLetters(made.get()) + "\nimage " + ofImage(made.get());
    }

    private static String ofLetters(RugWasField x) {
        return x.land() + ": " + of(x);
    }

    private static String ofImage(RugWasField x) {
        return x.on() + ": " + of(x);
    }
}
