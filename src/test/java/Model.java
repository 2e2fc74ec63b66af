import java.math.BigInteger;
import java.util.ArrayList;
import java.util.HashMap;
import java.util.HashSet;
import java.util.List;
import java.util.Map;
import java.util.Set;
import java.util.regex.Matcher;
import java.util.regex.Pattern;

/**
 * A second reading of the document, slow and by other means than the class:
 * day by day, all plans, all sets, all rains. ModelTest holds the two together.
 */
final class Model {
    private static final Pattern LAND = Pattern.compile(
        "(?:p[ptmcfh][0-9]{5};|[rt][0-9];|g[0-9]{5};|d[0-9]{2};)+");
    private static final int[][] BESIDE = {{-1, 0}, {0, -1}, {0, 1}, {1, 0}};

    private static final class Piece {
        int kind;
        int figure;
        int first;
        int high;
        int wide;
        boolean rolled;

        Piece copy() {
            Piece p = new Piece();
            p.kind = kind;
            p.figure = figure;
            p.first = first;
            p.high = high;
            p.wide = wide;
            p.rolled = rolled;
            return p;
        }

        Set<Integer> yards() {
            Set<Integer> all = new HashSet<>();
            for (int i = 0; i < high; i++) {
                for (int j = 0; j < wide; j++) {
                    all.add(first + 6 * i + j);
                }
            }
            return all;
        }
    }

    private static final class World {
        final List<Piece> pieces = new ArrayList<>();
        final int[] grown = new int[36];
        int day;

        World copy() {
            World w = new World();
            for (Piece p : pieces) {
                w.pieces.add(p.copy());
            }
            System.arraycopy(grown, 0, w.grown, 0, 36);
            w.day = day;
            return w;
        }

        Piece ownerOf(int yard) {
            for (Piece p : pieces) {
                if (p.yards().contains(yard)) {
                    return p;
                }
            }
            return null;
        }

        List<Integer> belongingTo(Piece p) {
            List<Integer> all = new ArrayList<>();
            for (int yard : p.yards()) {
                if (ownerOf(yard) == p) {
                    all.add(yard);
                }
            }
            return all;
        }

        World oneDay() {
            day++;
            for (Piece p : pieces) {
                for (int yard : belongingTo(p)) {
                    for (int i = 0; !p.rolled && i < growth(p.kind, p.figure, day); i++) {
                        grown[yard] += grown[yard] < 9 ? 1 : 0;
                    }
                }
            }
            return this;
        }

        World after(int n) {
            World w = copy();
            for (int i = 0; i < n; i++) {
                w.oneDay();
            }
            return w;
        }

        void tread(Piece p) {
            for (int yard : belongingTo(p)) {
                grown[yard] = 0;
            }
        }

        int thistles() {
            int many = 0;
            for (int g : grown) {
                many += g == 9 ? 1 : 0;
            }
            return many;
        }

        int sum() {
            int all = 0;
            for (int g : grown) {
                all += g;
            }
            return all;
        }

        boolean open(int yard) {
            Piece p = ownerOf(yard);
            return grown[yard] < 9 && (p == null || !p.rolled && p.kind != 5);
        }

        int openOnes() {
            int many = 0;
            for (int yard = 0; yard < 36; yard++) {
                many += open(yard) ? 1 : 0;
            }
            return many;
        }

        /** For each yard the way there: of the shortest the first by directions; null: none. */
        String[] waysFrom(int from) {
            String[] ways = new String[36];
            if (!open(from)) {
                return ways;
            }
            ways[from] = "";
            for (int length = 0; length < 36; length++) {
                for (int yard = 0; yard < 36; yard++) {
                    if (ways[yard] != null && ways[yard].length() == length) {
                        spread(ways, yard);
                    }
                }
            }
            return ways;
        }

        private void spread(String[] ways, int yard) {
            for (int d = 0; d < 4; d++) {
                int next = step(yard, d);
                if (next < 0 || !open(next)) {
                    continue;
                }
                String way = ways[yard] + d;
                boolean better = ways[next] == null || ways[next].length() == way.length() && way.compareTo(ways[next]) < 0;
                if (better) {
                    ways[next] = way;
                }
            }
        }

        int stepsOr(int one, int other, int none) {
            String way = waysFrom(one)[other];
            return way == null ? none : way.length();
        }
    }

    private static int step(int yard, int direction) {
        int row = yard / 6 + BESIDE[direction][0];
        int column = yard % 6 + BESIDE[direction][1];
        return row < 0 || row > 5 || column < 0 || column > 5 ? -1 : 6 * row + column;
    }

    private static int growth(int kind, int figure, int day) {
        int piece = day % 3 == 0 ? 1 : 0;
        int turf = piece + (day % 2 == 0 ? 1 : 0);
        int meadow = turf + figure / 4;
        int field = piece + (day % 7 == 0 ? figure / 3 : 0);
        return new int[] {piece, turf, meadow, (meadow + 1) / 2, field, 0}[kind];
    }

    private World world = new World();
    private World image;
    private final List<Integer> row = new ArrayList<>();
    private final StringBuilder text = new StringBuilder();
    private final Map<Integer, Integer> refusals = new HashMap<>();

    private int no(int number) {
        refusals.merge(number, 1, Integer::sum);
        return number;
    }

    private static boolean yardThere(int yard) {
        return yard >= 0 && yard <= 35;
    }

    private boolean pieceThere(int piece) {
        return piece >= 0 && piece < world.pieces.size();
    }

    private static int index(World w, Piece p) {
        return w.pieces.indexOf(p);
    }

    int letter(int c) {
        if (c < 0) {
            return no(-4);
        }
        if (c > 255 || text.length() == 96) {
            return no(-6);
        }
        text.append((char) c);
        return text.length();
    }

    int land() {
        String told = text.toString();
        text.setLength(0);
        for (int i = 1; i <= told.length(); i++) {
            Matcher m = LAND.matcher(told.substring(0, i));
            if (!m.matches() && !m.hitEnd()) {
                return -1000 - (i - 1);
            }
        }
        if (!LAND.matcher(told).matches()) {
            return -1000 - told.length();
        }
        World w = world.copy();
        int place = 0;
        int many = 0;
        for (String statement : told.split(";")) {
            if (!tell(w, statement)) {
                return -2000 - place;
            }
            place += statement.length() + 1;
            many++;
        }
        world = w;
        return many;
    }

    private static int num(String s, int from, int to) {
        return Integer.parseInt(s.substring(from, to));
    }

    private static boolean tell(World w, String s) {
        char c = s.charAt(0);
        if (c == 'p') {
            Piece p = new Piece();
            p.kind = "ptmcfh".indexOf(s.charAt(1));
            p.figure = num(s, 2, 3);
            p.first = num(s, 3, 5);
            p.high = num(s, 5, 6);
            p.wide = num(s, 6, 7);
            if (p.first > 35 || p.high < 1 || p.high > 6 || p.wide < 1 || p.wide > 6) {
                return false;
            }
            if (p.first / 6 + p.high > 6 || p.first % 6 + p.wide > 6 || w.pieces.size() == 6) {
                return false;
            }
            w.pieces.add(p);
            return true;
        }
        if (c == 'g') {
            int one = num(s, 1, 3);
            int other = num(s, 3, 5);
            for (int yard = one; yard <= other && other < 36; yard++) {
                w.grown[yard] = num(s, 5, 6);
            }
            return one <= other && other < 36;
        }
        if (c == 'd') {
            int n = num(s, 1, 3);
            for (int i = 0; i < n; i++) {
                w.oneDay();
            }
            return n >= 1 && n <= 60 && w.day <= 999;
        }
        int piece = num(s, 1, 2);
        if (piece >= w.pieces.size() || c == 't' && w.pieces.get(piece).rolled) {
            return false;
        }
        if (c == 't') {
            w.tread(w.pieces.get(piece));
        } else {
            w.pieces.get(piece).rolled = !w.pieces.get(piece).rolled;
        }
        return true;
    }

    int yard(int yard, int what) {
        if (!yardThere(yard)) {
            return no(-1);
        }
        if (what < 0 || what > 2) {
            return no(-2);
        }
        int owner = index(world, world.ownerOf(yard));
        return what == 0 ? world.grown[yard] : what == 1 ? owner < 0 ? -9 : owner : world.open(yard) ? 1 : 0;
    }

    int piece(int piece, int what) {
        if (!pieceThere(piece)) {
            return no(-1);
        }
        if (what < 0 || what > 6) {
            return no(-2);
        }
        Piece p = world.pieces.get(piece);
        return new int[] {p.kind, p.figure, p.first, p.high, p.wide, p.rolled ? 1 : 0, world.belongingTo(p).size()}[what];
    }

    int grows(int piece, int day) {
        if (!pieceThere(piece)) {
            return no(-1);
        }
        if (day < 1 || day > 999) {
            return no(day < 1 ? -4 : -6);
        }
        Piece p = world.pieces.get(piece);
        return growth(p.kind, p.figure, day);
    }

    int makes(int yard, int v) {
        if (!yardThere(yard)) {
            return no(-1);
        }
        if (v < 0 || v > 9) {
            return no(v < 0 ? -4 : -6);
        }
        int was = world.grown[yard];
        world.grown[yard] = v;
        return was;
    }

    int rolls(int piece) {
        if (!pieceThere(piece)) {
            return no(-1);
        }
        Piece p = world.pieces.get(piece);
        p.rolled = !p.rolled;
        return p.rolled ? 1 : 0;
    }

    int treads(int piece) {
        if (!pieceThere(piece)) {
            return no(-1);
        }
        if (world.pieces.get(piece).rolled) {
            return no(-3);
        }
        int before = world.sum();
        world.tread(world.pieces.get(piece));
        return before - world.sum();
    }

    int turn(int piece, int kind, int figure) {
        if (!pieceThere(piece)) {
            return no(-1);
        }
        if (kind < 0 || kind > 5) {
            return no(-2);
        }
        if (figure < 0 || figure > 9) {
            return no(figure < 0 ? -4 : -6);
        }
        Piece p = world.pieces.get(piece);
        int was = 10 * p.kind + p.figure;
        p.kind = kind;
        p.figure = figure;
        return was;
    }

    int days(int n) {
        if (n < 1) {
            return no(-4);
        }
        if (n > 60 || world.day + n > 999) {
            return no(-6);
        }
        world = world.after(n);
        return world.thistles();
    }

    private int thought(int n) {
        return n < 0 ? -4 : n > 99 ? -6 : 0;
    }

    int behind(int yard, int n) {
        if (!yardThere(yard)) {
            return no(-1);
        }
        return thought(n) != 0 ? no(thought(n)) : world.after(n).grown[yard];
    }

    int thistles(int n, int what) {
        if (thought(n) != 0) {
            return no(thought(n));
        }
        if (what < 0 || what > 1) {
            return no(-2);
        }
        return what == 0 ? world.after(n).thistles() : world.after(n).openOnes();
    }

    private static int first(World from, int piece) {
        World w = from.copy();
        for (int n = 0; n <= 99; n++) {
            for (int yard : w.belongingTo(w.pieces.get(piece))) {
                if (w.grown[yard] == 9) {
                    return n;
                }
            }
            w.oneDay();
        }
        return -9;
    }

    int firstThistle(int piece) {
        return pieceThere(piece) ? first(world, piece) : no(-1);
    }

    int longest() {
        int best = -9;
        int latest = -1;
        for (int piece = 0; piece < world.pieces.size(); piece++) {
            int f = first(world, piece);
            int when = f == -9 ? 1000 : f;
            if (when > latest) {
                latest = when;
                best = piece;
            }
        }
        return best;
    }

    int steps(int one, int other) {
        return yardThere(one) && yardThere(other) ? world.stepsOr(one, other, -9) : no(-1);
    }

    int reached(int yard, int steps) {
        if (!yardThere(yard)) {
            return no(-1);
        }
        if (steps < 0 || steps > 35) {
            return no(steps < 0 ? -4 : -6);
        }
        int many = 0;
        for (String way : world.waysFrom(yard)) {
            many += way != null && way.length() <= steps ? 1 : 0;
        }
        return many;
    }

    int cut(int one, int other) {
        if (!yardThere(one) || !yardThere(other) || one == other) {
            return no(-1);
        }
        int all = world.pieces.size();
        for (int size = 0; size <= all; size++) {
            for (int bits = 0; bits < 1 << all; bits++) {
                World w = world.copy();
                boolean lay = true;
                for (int i = 0; i < all; i++) {
                    if ((bits >> i & 1) == 1) {
                        lay &= !w.pieces.get(i).rolled;
                        w.pieces.get(i).rolled = true;
                    }
                }
                if (lay && Integer.bitCount(bits) == size && w.stepsOr(one, other, -1) < 0) {
                    return bits;
                }
            }
        }
        return -9;
    }

    int opens(int one, int other) {
        if (!yardThere(one) || !yardThere(other) || one == other) {
            return no(-1);
        }
        int best = -9;
        int fewest = world.stepsOr(one, other, 1000);
        for (int i = 0; i < world.pieces.size(); i++) {
            World w = world.copy();
            w.pieces.get(i).rolled = false;
            w.tread(w.pieces.get(i));
            int many = w.stepsOr(one, other, 1000);
            if (many < fewest) {
                fewest = many;
                best = i;
            }
        }
        return best;
    }

    int putAway(int one, int other, int piece, int n) {
        if (!yardThere(one) || !yardThere(other) || !pieceThere(piece)) {
            return no(-1);
        }
        if (n < 1 || n > 36) {
            return no(n < 1 ? -4 : -6);
        }
        String way = world.waysFrom(one)[other];
        if (way == null) {
            return 0;
        }
        int stands = one;
        for (int i = 0; i < Math.min(n, way.length()); i++) {
            stands = step(stands, way.charAt(i) - '0');
        }
        return world.ownerOf(stands) == world.pieces.get(piece) ? 1 : 0;
    }

    /** The fewest treadings on the days from this one to n, that much being grown now; 1000: it can not be. */
    private int fewest(Piece p, int ahead, int n, int grown, int[][] known) {
        if (ahead > n) {
            return 0;
        }
        if (known[ahead][grown] == 0) {
            int g = growth(p.kind, p.figure, world.day + ahead);
            int without = grown + g >= 9 ? 1000 : fewest(p, ahead + 1, n, grown + g, known);
            int with = g >= 9 ? 1000 : 1 + fewest(p, ahead + 1, n, g, known);
            known[ahead][grown] = 1 + Math.min(without, with);
        }
        return known[ahead][grown] - 1;
    }

    int treadings(int piece, int n, int what) {
        if (!pieceThere(piece)) {
            return no(-1);
        }
        if (n < 0 || n > 40) {
            return no(n < 0 ? -4 : -6);
        }
        if (what < 0 || what > 1) {
            return no(-2);
        }
        Piece p = world.pieces.get(piece);
        if (p.rolled) {
            return no(-3);
        }
        int most = 0;
        for (int yard : world.belongingTo(p)) {
            most = Math.max(most, world.grown[yard]);
        }
        if (world.belongingTo(p).isEmpty()) {
            return what == 0 ? 0 : -9;
        }
        int[][] known = new int[42][10];
        int best = fewest(p, 1, n, most, known);
        if (what == 0 || best == 0 || best >= 1000) {
            return what == 0 ? best >= 1000 ? -9 : best : -9;
        }
        int latest = -9;
        int grown = most;
        for (int ahead = 1; ahead <= n; ahead++) {
            int g = growth(p.kind, p.figure, world.day + ahead);
            if (1 + fewest(p, ahead + 1, n, g, known) == best) {
                latest = ahead;
            }
            grown += g;
            if (grown >= 9) {
                break;
            }
        }
        return latest;
    }

    int turns(int n) {
        if (thought(n) != 0) {
            return no(thought(n));
        }
        World w = world.copy();
        List<Piece> laid = new ArrayList<>();
        for (Piece p : w.pieces) {
            if (!p.rolled) {
                laid.add(p);
            }
        }
        for (int i = 0; i < n; i++) {
            if (!laid.isEmpty()) {
                w.tread(laid.get(i % laid.size()));
            }
            w.oneDay();
        }
        return w.thistles();
    }

    int needy(int n) {
        if (thought(n) != 0) {
            return no(thought(n));
        }
        int best = -9;
        int fewest = world.after(n).thistles();
        for (int i = 0; i < world.pieces.size(); i++) {
            World w = world.copy();
            if (w.pieces.get(i).rolled) {
                continue;
            }
            w.tread(w.pieces.get(i));
            int many = w.after(n).thistles();
            if (many < fewest) {
                fewest = many;
                best = i;
            }
        }
        return best;
    }

    int sold(int n, int what) {
        if (thought(n) != 0) {
            return no(thought(n));
        }
        if (what < 0 || what > 1) {
            return no(-2);
        }
        int best = -9;
        int most = -9;
        for (int i = 0; i < world.pieces.size(); i++) {
            World w = world.copy();
            w.pieces.remove(i);
            int all = w.after(n).sum();
            if (all > most) {
                most = all;
                best = i;
            }
        }
        return what == 0 ? best : most;
    }

    int hay(int piece) {
        if (!pieceThere(piece)) {
            return no(-1);
        }
        int all = 0;
        for (int yard : world.belongingTo(world.pieces.get(piece))) {
            all += world.grown[yard];
        }
        return all;
    }

    int same(int what) {
        if (what < 0 || what > 1) {
            return no(-2);
        }
        List<Integer> twos = new ArrayList<>();
        for (int i = 0; i < world.pieces.size(); i++) {
            for (int j = i + 1; j < world.pieces.size(); j++) {
                Set<Integer> both = world.pieces.get(i).yards();
                both.retainAll(world.pieces.get(j).yards());
                if (!both.isEmpty()) {
                    twos.add(10 * i + j);
                }
            }
        }
        return what == 0 ? twos.size() : twos.isEmpty() ? -9 : twos.get(0);
    }

    int edge(int piece) {
        if (!pieceThere(piece)) {
            return no(-1);
        }
        List<Integer> its = world.belongingTo(world.pieces.get(piece));
        int many = 0;
        for (int yard : its) {
            boolean at = false;
            for (int d = 0; d < 4; d++) {
                at |= step(yard, d) >= 0 && !its.contains(step(yard, d));
            }
            many += at ? 1 : 0;
        }
        return many;
    }

    long rain(int yard, int n, int t, int part) {
        long refused = 4000000000000000000L;
        if (!yardThere(yard)) {
            return refused - no(-1);
        }
        if (n < 0 || t < 2) {
            return refused - no(-4);
        }
        if (n > 8 || t > 20) {
            return refused - no(-6);
        }
        if (part < 0 || part > 1) {
            return refused - no(-2);
        }
        BigInteger above = BigInteger.ZERO;
        for (int rains = 0; rains < 1 << n; rains++) {
            if (world.after(n + Integer.bitCount(rains)).grown[yard] == 9) {
                above = above.add(BigInteger.valueOf(t - 1).pow(n - Integer.bitCount(rains)));
            }
        }
        BigInteger below = BigInteger.valueOf(t).pow(n);
        BigInteger common = above.gcd(below);
        return (part == 0 ? above : below).divide(common).longValueExact();
    }

    int two(int a, int b, int one, int other) {
        if (!pieceThere(a) || !pieceThere(b) || a == b || !yardThere(one) || !yardThere(other) || one == other) {
            return no(-1);
        }
        int[][] far = new int[2][2];
        for (int i = 0; i < 2; i++) {
            for (int j = 0; j < 2; j++) {
                World w = world.copy();
                w.pieces.get(a).rolled ^= i == 1;
                w.pieces.get(b).rolled ^= j == 1;
                far[i][j] = w.stepsOr(one, other, 1000);
            }
        }
        for (int i = 0; i < 2; i++) {
            for (int j = 0; j < 2; j++) {
                if (far[1 - i][j] >= far[i][j] && far[i][1 - j] <= far[i][j]) {
                    return 10 * i + j;
                }
            }
        }
        return -9;
    }

    int patch(int what) {
        if (what < 0 || what > 1) {
            return no(-2);
        }
        if (row.size() != 4) {
            return no(-3);
        }
        List<Integer> at = new ArrayList<>();
        for (int i = 0; i < 5; i++) {
            for (int j = 0; j < 5; j++) {
                int y = 6 * i + j;
                if (row.equals(List.of(world.grown[y], world.grown[y + 1], world.grown[y + 6], world.grown[y + 7]))) {
                    at.add(y);
                }
            }
        }
        return what == 0 ? at.size() : at.isEmpty() ? -9 : at.get(0);
    }

    int whatWas(int yard, int what) {
        if (!yardThere(yard)) {
            return no(-1);
        }
        if (what < 0 || what > 1) {
            return no(-2);
        }
        int owner = index(world, world.ownerOf(yard));
        if (owner < 0) {
            return no(-3);
        }
        int bits = 0;
        for (int other = 0; other < (what == 0 ? 6 : 10); other++) {
            World w = world.copy();
            if (what == 0) {
                w.pieces.get(owner).kind = other;
            } else {
                w.pieces.get(owner).figure = other;
            }
            List<Integer> seen = new ArrayList<>();
            for (int i = 0; i < row.size(); i++) {
                seen.add(w.after(i).grown[yard]);
            }
            bits |= seen.equals(row) ? 1 << other : 0;
        }
        return bits;
    }

    int row(int v) {
        if (v < 0) {
            return no(-4);
        }
        if (v > 99 || row.size() == 16) {
            return no(-6);
        }
        row.add(v);
        return row.size();
    }

    int judge() {
        int answer = -9;
        for (int i = row.size() - 1; i >= 0; i--) {
            answer = world.after(i).thistles() == row.get(i) ? answer : i;
        }
        row.clear();
        return answer;
    }

    int clear() {
        int had = row.size();
        row.clear();
        return had;
    }

    int lots(int n, int z, int what) {
        if (n < 1 || n > 20) {
            return no(n < 1 ? -4 : -6);
        }
        if (what < 0 || what > 1) {
            return no(-2);
        }
        BigInteger seed = BigInteger.valueOf(z);
        int all = 0;
        for (int i = 0; i < n; i++) {
            World w = world.copy();
            for (Piece p : w.pieces) {
                seed = seed.multiply(BigInteger.valueOf(1664525)).add(BigInteger.valueOf(1013904223));
                p.rolled = seed.testBit(8);
            }
            all += what == 0 ? w.after(10).thistles() : w.after(10).sum();
        }
        return all;
    }

    int image() {
        image = world.copy();
        return image.day;
    }

    int on() {
        if (image == null) {
            return no(-3);
        }
        world = image.copy();
        return world.day;
    }

    int count(int what) {
        int bits = 0;
        for (int i = 0; i < world.pieces.size(); i++) {
            bits += world.pieces.get(i).rolled ? 1 << i : 0;
        }
        if (what >= 11 && what <= 16) {
            return refusals.getOrDefault(10 - what, 0);
        }
        int[] all = {world.pieces.size(), world.day, world.sum(), world.thistles(), world.openOnes(), bits, row.size(), text.length()};
        return what >= 0 && what < all.length ? all[what] : -9;
    }
}
