/** What the tests share: a tally of answers that are not as due, and land told from a text. */
final class Check {
    private final String name;
    private int asked;
    private int wrong;

    Check(String name) {
        this.name = name;
    }

    void due(String call, long got, long want) {
        asked++;
        if (got != want) {
            wrong++;
            System.out.println(name + ": " + call + " answered " + got + ", due is " + want);
        }
    }

    void yes(String what, boolean holds) {
        due(what, holds ? 1 : 0, 1);
    }

    void finish() {
        System.out.println(name + ": " + asked + " answers looked at, " + wrong + " not as due");
        if (wrong != 0 || asked == 0) {
            System.exit(1);
        }
    }

    static int tell(RugWasField x, String text) {
        for (int i = 0; i < text.length(); i++) {
            if (x.letter(text.charAt(i)) != i + 1) {
                throw new IllegalStateException("a letter of " + text + " was not taken");
            }
        }
        return x.land();
    }

    /** A new object with this land; it must be without fault. */
    static RugWasField of(String text) {
        RugWasField x = new RugWasField();
        if (tell(x, text) < 1) {
            throw new IllegalStateException("a fault in " + text);
        }
        return x;
    }

    /** A call by its name. */
    static long call(RugWasField x, String name, int... arguments) {
        Class<?>[] types = new Class<?>[arguments.length];
        Object[] values = new Object[arguments.length];
        for (int i = 0; i < arguments.length; i++) {
            types[i] = int.class;
            values[i] = arguments[i];
        }
        try {
            return ((Number) RugWasField.class.getMethod(name, types).invoke(x, values)).longValue();
        } catch (ReflectiveOperationException e) {
            throw new IllegalStateException(name + " did not answer", e);
        }
    }

    static void rowOf(RugWasField x, int... numbers) {
        x.clear();
        for (int number : numbers) {
            x.row(number);
        }
    }
}
