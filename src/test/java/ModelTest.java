import java.lang.reflect.Method;
import java.lang.reflect.Modifier;
import java.util.ArrayList;
import java.util.Arrays;
import java.util.Comparator;
import java.util.List;
import java.util.Random;

/** Drawn runs of calls, each held against Model; the seeds are fixed, so a run can be had again. */
public final class ModelTest {
    private static final Check CHECK = new Check("ModelTest");
    private static final int RUNS = 400;
    private static final int CALLS = 512;
    private static final int[] ODD = {-1, -2, -9, 10, 17, 36, 37, 41, 60, 61, 97, 99, 100, 255, 256, 999, 1000,
        Integer.MIN_VALUE, Integer.MAX_VALUE, Integer.MIN_VALUE + 1};

    private final Random lot;
    private final RugWasField x = new RugWasField();
    private final Model model = new Model();
    private final int seed;
    private int calls;

    private ModelTest(int seed) {
        this.seed = seed;
        lot = new Random(seed);
    }

    public static void main(String[] args) throws Exception {
        List<Method> face = new ArrayList<>();
        for (Method m : RugWasField.class.getDeclaredMethods()) {
            if (Modifier.isPublic(m.getModifiers())) {
                face.add(m);
            }
        }
        face.sort(Comparator.comparing(Method::getName));
        int runs = args.length > 0 ? Integer.parseInt(args[0]) : RUNS;
        for (int seed = 0; seed < runs; seed++) {
            new ModelTest(seed).run(face);
        }
        CHECK.finish();
    }

    private void run(List<Method> face) throws Exception {
        while (calls < CALLS - 100) {
            int draw = lot.nextInt(40);
            if (draw == 0 || calls == 0) {
                tell();
            } else if (draw < 3) {
                tellRow();
            } else if (draw < 6) {
                changeAYard();
            } else {
                Method m = face.get(lot.nextInt(face.size()));
                if (!isDull(m.getName())) {
                    ask(m.getName(), arguments(m));
                }
            }
        }
    }

    /** Single letters tell little, and days that go by leave little but thistles: most runs have few of them. */
    private boolean isDull(String name) {
        return name.equals("letter") || name.equals("days") && lot.nextInt(12) >= seed % 4;
    }

    private void ask(String name, int... arguments) throws Exception {
        Class<?>[] types = new Class<?>[arguments.length];
        Object[] values = new Object[arguments.length];
        for (int i = 0; i < arguments.length; i++) {
            types[i] = int.class;
            values[i] = arguments[i];
        }
        Number got = (Number) RugWasField.class.getMethod(name, types).invoke(x, values);
        Number want = (Number) Model.class.getDeclaredMethod(name, types).invoke(model, values);
        CHECK.due("seed " + seed + ", call " + calls + ": " + name + Arrays.toString(arguments), got.longValue(), want.longValue());
        calls++;
    }

    private int[] arguments(Method m) {
        int[] all = new int[m.getParameterCount()];
        for (int i = 0; i < all.length; i++) {
            all[i] = argument(m.getName(), i);
        }
        return all;
    }

    private int argument(String name, int i) {
        if (lot.nextInt(25) == 0) {
            return ODD[lot.nextInt(ODD.length)];
        }
        switch (name + i) {
            case "yard0": case "makes0": case "behind0": case "reached0": case "rain0": case "whatWas0":
            case "steps0": case "steps1": case "cut0": case "cut1": case "opens0": case "opens1":
            case "putAway0": case "putAway1": case "two2": case "two3":
                return lot.nextInt(36);
            case "piece0": case "grows0": case "rolls0": case "treads0": case "turn0": case "firstThistle0":
            case "putAway2": case "treadings0": case "hay0": case "edge0": case "two0": case "two1":
                return lot.nextInt(Math.max(1, model.count(0)) + (lot.nextInt(8) == 0 ? 1 : 0));
            case "yard1": return lot.nextInt(3);
            case "piece1": return lot.nextInt(7);
            case "grows1": return 1 + lot.nextInt(999);
            case "makes1": case "turn2": return lot.nextInt(10);
            case "turn1": return lot.nextInt(6);
            case "days0": return 1 + lot.nextInt(lot.nextBoolean() ? 60 : 5);
            case "behind1": case "thistles0": case "turns0": case "needy0": case "sold0":
                return lot.nextInt(lot.nextBoolean() ? 100 : 12);
            case "reached1": return lot.nextInt(lot.nextBoolean() ? 36 : 8);
            case "putAway3": return 1 + lot.nextInt(lot.nextBoolean() ? 36 : 10);
            case "treadings1": return lot.nextInt(41);
            case "rain1": return lot.nextInt(9);
            case "rain2": return 2 + lot.nextInt(19);
            case "row0": return lot.nextInt(lot.nextBoolean() ? 100 : 10);
            case "lots0": return 1 + lot.nextInt(20);
            case "lots1": return lot.nextInt();
            case "count0": return lot.nextInt(18);
            default: return lot.nextInt(2);
        }
    }

    private void changeAYard() throws Exception {
        ask("makes", lot.nextInt(36), lot.nextBoolean() ? 9 : lot.nextInt(10));
    }

    /** Mostly rows that are so, that the questions by it have something to find. */
    private void tellRow() throws Exception {
        ask("clear");
        int sort = lot.nextInt(3);
        if (sort == 0) {
            int yard = 6 * lot.nextInt(5) + lot.nextInt(5);
            for (int next : new int[] {yard, yard + 1, yard + 6, yard + 7}) {
                ask("row", model.yard(next, 0));
            }
            ask("patch", 0);
            ask("patch", 1);
            return;
        }
        int length = lot.nextInt(17);
        int yard = lot.nextInt(36);
        for (int n = 0; n < length; n++) {
            int so = sort == 1 ? model.behind(yard, n) : model.thistles(n, 0);
            ask("row", Math.max(0, so + (lot.nextInt(40) == 0 ? 1 : 0)));
        }
        if (sort == 1) {
            ask("whatWas", yard, 0);
            ask("whatWas", yard, 1);
        } else {
            ask("judge");
        }
    }

    private void tell() throws Exception {
        StringBuilder text = new StringBuilder();
        int pieces = model.count(0);
        for (int i = 1 + lot.nextInt(6); i > 0 && text.length() < 80; i--) {
            String more = statement(pieces);
            pieces += more.charAt(0) == 'p' ? 1 : 0;
            text.append(more);
        }
        if (lot.nextInt(4) == 0) {
            text.setCharAt(lot.nextInt(text.length()), (char) (lot.nextBoolean() ? lot.nextInt(256) : '0' + lot.nextInt(12)));
        }
        if (lot.nextInt(8) == 0) {
            text.setLength(lot.nextInt(text.length()));
        }
        for (int i = 0; i < text.length(); i++) {
            ask("letter", text.charAt(i));
        }
        ask("land");
        for (int what = 0; what < 18; what++) {
            ask("count", what);
        }
    }

    private String statement(int pieces) {
        int which = lot.nextInt(9);
        if (which < 4 || pieces == 0 && which < 6) {
            int row = lot.nextInt(6);
            int column = lot.nextInt(6);
            int beyond = lot.nextInt(20) == 0 ? 1 : 0;
            int high = 1 + lot.nextInt(6 - row + beyond);
            int wide = 1 + lot.nextInt(6 - column + beyond);
            return String.format("p%c%d%02d%d%d;", "ptmcfh".charAt(lot.nextInt(6)), lot.nextInt(10), 6 * row + column, high, wide);
        }
        if (which < 6) {
            return String.format("%c%d;", which == 4 ? 'r' : 't', lot.nextInt(pieces));
        }
        if (which < 8) {
            int one = lot.nextInt(36);
            return String.format("g%02d%02d%d;", one, Math.min(36, one + lot.nextInt(7)), lot.nextInt(10));
        }
        return String.format("d%02d;", 1 + lot.nextInt(lot.nextInt(9) < seed % 4 ? 61 : 3));
    }
}
