/** Land that is told in letters, and what can be known of it: see README.md. */
public final class RugWasField {
    private static final int SIDE = 6;
    private static final int YARDS = 36;
    private static final int MOST_PIECES = 6;
    private static final int THISTLE = 9;
    private static final int MOST_FIGURE = 9;
    private static final int LAST_DAY = 999;
    private static final int MOST_DAYS_AT_ONCE = 60;
    private static final int FARTHEST_THOUGHT = 99;
    private static final int MOST_LETTERS = 96;
    private static final int MOST_IN_ROW = 16;
    private static final int DAYS_OF_A_LOT = 10;

    private static final int KINDS = 6;
    private static final int TURF = 1;
    private static final int MEADOW = 2;
    private static final int COMMON = 3;
    private static final int FIELD = 4;
    private static final int HOLE = 5;

    private static final int NOBODY = -1;
    private static final int OTHER = -2;
    private static final int STATE = -3;
    private static final int BELOW = -4;
    private static final int ROOM = -6;
    private static final int REFUSALS = 6;
    private static final long REFUSED_LONG = 4000000000000000000L;

    /** The document's answer for what is not there. */
    private static final int LACKING = -9;
    /** Inside: no piece, no place. */
    private static final int NONE = -1;
    /** More steps than any way over 36 yards has. */
    private static final int NO_WAY = YARDS;

    private final Land now = new Land();
    private final Land mind = new Land();
    private final Land imaged = new Land();
    private boolean hasImage;
    private final Walk walk = new Walk();
    private final Telling telling = new Telling();
    private final int[] told = new int[MOST_IN_ROW];
    private int toldLength;
    private final int[] refusals = new int[REFUSALS + 1];

    public RugWasField() {
    }

    public int letter(int c) {
        int fault = firstOf(outside(c, 0, 255), telling.length >= MOST_LETTERS ? ROOM : 0);
        return fault != 0 ? refuse(fault) : telling.add(c);
    }

    public int land() {
        int odd = telling.firstOddLetter();
        int wrong = NONE;
        if (odd == NONE) {
            // In mind first, so that a fault far behind leaves the land as it was.
            mind.copyFrom(now);
            wrong = telling.tellTo(mind);
        }
        telling.length = 0;
        if (odd != NONE) {
            return -1000 - odd;
        }
        if (wrong != NONE) {
            return -2000 - wrong;
        }
        now.copyFrom(mind);
        return telling.statements;
    }

    public int yard(int yard, int what) {
        int fault = !isYard(yard) ? NOBODY : otherThan(what, 2);
        if (fault != 0) {
            return refuse(fault);
        }
        switch (what) {
            case 0: return now.grown[yard];
            case 1: return now.owner[yard] == NONE ? LACKING : now.owner[yard];
            default: return now.isOpen(yard) ? 1 : 0;
        }
    }

    public int piece(int piece, int what) {
        int fault = !now.hasPiece(piece) ? NOBODY : otherThan(what, 6);
        if (fault != 0) {
            return refuse(fault);
        }
        switch (what) {
            case 0: return now.kind[piece];
            case 1: return now.figure[piece];
            case 2: return now.first[piece];
            case 3: return now.high[piece];
            case 4: return now.wide[piece];
            case 5: return now.rolled[piece] ? 1 : 0;
            default: return now.yardsOf(piece);
        }
    }

    public int grows(int piece, int day) {
        int fault = !now.hasPiece(piece) ? NOBODY : outside(day, 1, LAST_DAY);
        return fault != 0 ? refuse(fault) : Growth.ofKind(now.kind[piece], now.figure[piece], day);
    }

    public int makes(int yard, int v) {
        int fault = !isYard(yard) ? NOBODY : outside(v, 0, THISTLE);
        if (fault != 0) {
            return refuse(fault);
        }
        int was = now.grown[yard];
        now.grown[yard] = v;
        return was;
    }

    public int rolls(int piece) {
        if (!now.hasPiece(piece)) {
            return refuse(NOBODY);
        }
        now.turnOver(piece);
        return now.rolled[piece] ? 1 : 0;
    }

    public int treads(int piece) {
        int fault = !now.hasPiece(piece) ? NOBODY : now.rolled[piece] ? STATE : 0;
        if (fault != 0) {
            return refuse(fault);
        }
        int was = now.grownOn(piece);
        now.treadDown(piece);
        return was;
    }

    public int turn(int piece, int kind, int figure) {
        int fault = !now.hasPiece(piece) ? NOBODY
            : firstOf(otherThan(kind, KINDS - 1), outside(figure, 0, MOST_FIGURE));
        if (fault != 0) {
            return refuse(fault);
        }
        int was = 10 * now.kind[piece] + now.figure[piece];
        now.kind[piece] = kind;
        now.figure[piece] = figure;
        return was;
    }

    public int days(int n) {
        int fault = firstOf(outside(n, 1, MOST_DAYS_AT_ONCE), now.day + n > LAST_DAY ? ROOM : 0);
        if (fault != 0) {
            return refuse(fault);
        }
        now.passDays(n);
        return now.countThistles();
    }

    public int behind(int yard, int n) {
        int fault = !isYard(yard) ? NOBODY : outside(n, 0, FARTHEST_THOUGHT);
        return fault != 0 ? refuse(fault) : now.grownBehind(yard, n);
    }

    public int thistles(int n, int what) {
        int fault = firstOf(outside(n, 0, FARTHEST_THOUGHT), otherThan(what, 1));
        if (fault != 0) {
            return refuse(fault);
        }
        mind.copyFrom(now);
        mind.passDays(n);
        return what == 0 ? mind.countThistles() : mind.countOpen();
    }

    public int firstThistle(int piece) {
        if (!now.hasPiece(piece)) {
            return refuse(NOBODY);
        }
        int days = now.daysToThistle(piece);
        return days > FARTHEST_THOUGHT ? LACKING : days;
    }

    public int longest() {
        int best = LACKING;
        int latest = -1;
        for (int piece = 0; piece < now.pieces; piece++) {
            int days = now.daysToThistle(piece);
            if (days > latest) {
                best = piece;
                latest = days;
            }
        }
        return best;
    }

    public int steps(int one, int other) {
        if (!isYard(one) || !isYard(other)) {
            return refuse(NOBODY);
        }
        int fewest = walk.fewestSteps(now, one, other);
        return fewest == NO_WAY ? LACKING : fewest;
    }

    public int reached(int yard, int steps) {
        int fault = !isYard(yard) ? NOBODY : outside(steps, 0, YARDS - 1);
        if (fault != 0) {
            return refuse(fault);
        }
        walk.measureFrom(now, yard);
        return walk.countWithin(steps);
    }

    public int cut(int one, int other) {
        if (!areTwoYards(one, other)) {
            return refuse(NOBODY);
        }
        int best = LACKING;
        int fewest = MOST_PIECES + 1;
        int rolledNow = now.rolledBits();
        for (int bits = 0; bits < 1 << now.pieces; bits++) {
            int many = Integer.bitCount(bits);
            if ((bits & rolledNow) == 0 && many < fewest && cuts(bits, one, other)) {
                best = bits;
                fewest = many;
            }
        }
        return best;
    }

    public int opens(int one, int other) {
        if (!areTwoYards(one, other)) {
            return refuse(NOBODY);
        }
        int best = LACKING;
        int fewest = walk.fewestSteps(now, one, other);
        for (int piece = 0; piece < now.pieces; piece++) {
            mind.copyFrom(now);
            mind.rolled[piece] = false;
            mind.treadDown(piece);
            int many = walk.fewestSteps(mind, one, other);
            if (many < fewest) {
                best = piece;
                fewest = many;
            }
        }
        return best;
    }

    public int putAway(int one, int other, int piece, int n) {
        boolean known = isYard(one) && isYard(other) && now.hasPiece(piece);
        int fault = !known ? NOBODY : outside(n, 1, YARDS);
        if (fault != 0) {
            return refuse(fault);
        }
        int stands = walk.standsAfter(now, one, other, n);
        return stands != NONE && now.owner[stands] == piece ? 1 : 0;
    }

    public int treadings(int piece, int n, int what) {
        int fault = !now.hasPiece(piece) ? NOBODY
            : firstOf(outside(n, 0, 40), firstOf(otherThan(what, 1), now.rolled[piece] ? STATE : 0));
        if (fault != 0) {
            return refuse(fault);
        }
        return what == 0 ? countTreadings(piece, n) : firstTreading(piece, n);
    }

    public int turns(int n) {
        int fault = outside(n, 0, FARTHEST_THOUGHT);
        if (fault != 0) {
            return refuse(fault);
        }
        mind.copyFrom(now);
        int last = NONE;
        for (int day = 1; day <= n; day++) {
            last = mind.laidOutAfter(last);
            if (last != NONE) {
                mind.treadDown(last);
            }
            mind.passDays(1);
        }
        return mind.countThistles();
    }

    public int needy(int n) {
        int fault = outside(n, 0, FARTHEST_THOUGHT);
        if (fault != 0) {
            return refuse(fault);
        }
        int best = LACKING;
        int fewest = thistlesIfTrod(NONE, n);
        for (int piece = 0; piece < now.pieces; piece++) {
            int many = now.rolled[piece] ? fewest : thistlesIfTrod(piece, n);
            if (many < fewest) {
                best = piece;
                fewest = many;
            }
        }
        return best;
    }

    public int sold(int n, int what) {
        int fault = firstOf(outside(n, 0, FARTHEST_THOUGHT), otherThan(what, 1));
        if (fault != 0) {
            return refuse(fault);
        }
        int best = LACKING;
        int most = LACKING;
        for (int piece = 0; piece < now.pieces; piece++) {
            int grown = grownWithout(piece, n);
            if (grown > most) {
                best = piece;
                most = grown;
            }
        }
        return what == 0 ? best : most;
    }

    public int hay(int piece) {
        return now.hasPiece(piece) ? now.grownOn(piece) : refuse(NOBODY);
    }

    public int same(int what) {
        int fault = otherThan(what, 1);
        if (fault != 0) {
            return refuse(fault);
        }
        int many = 0;
        int foremost = LACKING;
        for (int lesser = 0; lesser < now.pieces; lesser++) {
            for (int other = lesser + 1; other < now.pieces; other++) {
                if (now.overlap(lesser, other)) {
                    foremost = many == 0 ? 10 * lesser + other : foremost;
                    many++;
                }
            }
        }
        return what == 0 ? many : foremost;
    }

    public int edge(int piece) {
        if (!now.hasPiece(piece)) {
            return refuse(NOBODY);
        }
        int many = 0;
        for (int yard = 0; yard < YARDS; yard++) {
            if (now.owner[yard] == piece && now.isAtEdge(yard)) {
                many++;
            }
        }
        return many;
    }

    public long rain(int yard, int n, int t, int part) {
        int fault = !isYard(yard) ? NOBODY : firstOf(outsideOdds(n, t), otherThan(part, 1));
        if (fault != 0) {
            return REFUSED_LONG - refuse(fault);
        }
        long above = thistleCases(yard, n, t);
        long below = Odds.power(t, n);
        long shared = Odds.commonDivisor(above, below);
        if (shared < 1) {
            return 0;
        }
        return part == 0 ? above / shared : below / shared;
    }

    public int two(int a, int b, int one, int other) {
        boolean known = now.hasPiece(a) && now.hasPiece(b) && a != b;
        if (!known || !areTwoYards(one, other)) {
            return refuse(NOBODY);
        }
        int asIs = stepsIfTurned(NONE, NONE, one, other);
        int byOther = stepsIfTurned(NONE, b, one, other);
        int byFirst = stepsIfTurned(a, NONE, one, other);
        int byBoth = stepsIfTurned(a, b, one, other);
        if (asIs <= byFirst && asIs >= byOther) {
            return 0;
        }
        if (byOther <= byBoth && byOther >= asIs) {
            return 1;
        }
        if (byFirst <= asIs && byFirst >= byBoth) {
            return 10;
        }
        return byBoth <= byOther && byBoth >= byFirst ? 11 : LACKING;
    }

    public int patch(int what) {
        int fault = firstOf(otherThan(what, 1), toldLength != 4 ? STATE : 0);
        if (fault != 0) {
            return refuse(fault);
        }
        int many = 0;
        int foremost = LACKING;
        for (int yard = 0; yard < YARDS; yard++) {
            if (patchFits(yard)) {
                foremost = many == 0 ? yard : foremost;
                many++;
            }
        }
        return what == 0 ? many : foremost;
    }

    public int whatWas(int yard, int what) {
        int fault = !isYard(yard) ? NOBODY
            : firstOf(otherThan(what, 1), now.owner[yard] == NONE ? STATE : 0);
        if (fault != 0) {
            return refuse(fault);
        }
        return what == 0 ? kindsAsTold(yard) : figuresAsTold(yard);
    }

    public int row(int v) {
        int fault = firstOf(outside(v, 0, 99), toldLength >= MOST_IN_ROW ? ROOM : 0);
        if (fault != 0) {
            return refuse(fault);
        }
        told[toldLength] = v;
        toldLength++;
        return toldLength;
    }

    public int judge() {
        int answer = LACKING;
        mind.copyFrom(now);
        for (int day = 0; day < toldLength && answer == LACKING; day++) {
            if (told[day] != mind.countThistles()) {
                answer = day;
            }
            mind.passDays(1);
        }
        toldLength = 0;
        return answer;
    }

    public int clear() {
        int had = toldLength;
        toldLength = 0;
        return had;
    }

    public int lots(int n, int z, int what) {
        int fault = firstOf(outside(n, 1, 20), otherThan(what, 1));
        if (fault != 0) {
            return refuse(fault);
        }
        int seed = z;
        int together = 0;
        for (int lot = 0; lot < n; lot++) {
            mind.copyFrom(now);
            for (int piece = 0; piece < mind.pieces; piece++) {
                seed = Odds.nextSeed(seed);
                mind.rolled[piece] = Odds.halfDraw(seed) == 1;
            }
            mind.passDays(DAYS_OF_A_LOT);
            together += what == 0 ? mind.countThistles() : mind.allGrown();
        }
        return together;
    }

    public int image() {
        imaged.copyFrom(now);
        hasImage = true;
        return now.day;
    }

    public int on() {
        if (!hasImage) {
            return refuse(STATE);
        }
        now.copyFrom(imaged);
        return now.day;
    }

    public int count(int what) {
        if (what > 10 && what <= 10 + REFUSALS) {
            return refusals[what - 10];
        }
        switch (what) {
            case 0: return now.pieces;
            case 1: return now.day;
            case 2: return now.allGrown();
            case 3: return now.countThistles();
            case 4: return now.countOpen();
            case 5: return now.rolledBits();
            case 6: return toldLength;
            case 7: return telling.length;
            default: return LACKING;
        }
    }

    private int refuse(int number) {
        if (number <= NOBODY && number >= ROOM) {
            refusals[-number]++;
        }
        return number;
    }

    private static boolean isYard(int yard) {
        return yard >= 0 && yard < YARDS;
    }

    private static boolean areTwoYards(int one, int other) {
        return isYard(one) && isYard(other) && one != other;
    }

    private static int outside(int number, int least, int most) {
        return number < least ? BELOW : number > most ? ROOM : 0;
    }

    private static int firstOf(int fault, int next) {
        return fault != 0 ? fault : next;
    }

    private static int otherThan(int what, int last) {
        return what < 0 || what > last ? OTHER : 0;
    }

    private boolean cuts(int bits, int one, int other) {
        mind.copyFrom(now);
        for (int piece = 0; piece < mind.pieces; piece++) {
            if ((bits & 1 << piece) != 0) {
                mind.rolled[piece] = true;
            }
        }
        return walk.fewestSteps(mind, one, other) == NO_WAY;
    }

    /**
     * To tread as late as can be is to tread least often: a later treading
     * leaves less grown on every day behind it. It always helps, as no kind
     * grows by 9 on one day.
     */
    private int countTreadings(int piece, int n) {
        int many = 0;
        int most = now.mostGrownOn(piece);
        for (int ahead = 1; ahead <= n && most != NONE; ahead++) {
            int growth = now.growthOn(piece, now.day + ahead);
            if (most + growth >= THISTLE) {
                many++;
                most = 0;
            }
            most += growth;
        }
        return many;
    }

    private int firstTreading(int piece, int n) {
        int most = now.mostGrownOn(piece);
        for (int ahead = 1; ahead <= n && most != NONE; ahead++) {
            most += now.growthOn(piece, now.day + ahead);
            if (most >= THISTLE) {
                return ahead;
            }
        }
        return LACKING;
    }

    private int thistlesIfTrod(int piece, int n) {
        mind.copyFrom(now);
        if (piece != NONE) {
            mind.treadDown(piece);
        }
        mind.passDays(n);
        return mind.countThistles();
    }

    private int grownWithout(int piece, int n) {
        mind.copyFrom(now);
        mind.settleWithout(piece);
        mind.passDays(n);
        return mind.allGrown();
    }

    /** Both numbers are looked at for being too small before either for being too great. */
    private static int outsideOdds(int n, int t) {
        if (n < 0 || t < 2) {
            return BELOW;
        }
        return n > 8 || t > 20 ? ROOM : 0;
    }

    /** Of all t to the n cases: those in which the yard is a thistle. */
    private long thistleCases(int yard, int n, int t) {
        long cases = 0;
        long ways = 1;
        for (int rainy = 0; rainy <= n; rainy++) {
            if (now.grownBehind(yard, n + rainy) == THISTLE) {
                cases += ways * Odds.power(t - 1, n - rainy);
            }
            ways = ways * (n - rainy) / (rainy + 1);
        }
        return cases;
    }

    private int stepsIfTurned(int a, int b, int one, int other) {
        mind.copyFrom(now);
        if (a != NONE) {
            mind.turnOver(a);
        }
        if (b != NONE) {
            mind.turnOver(b);
        }
        return walk.fewestSteps(mind, one, other);
    }

    private boolean patchFits(int yard) {
        if (yard / SIDE == SIDE - 1 || yard % SIDE == SIDE - 1) {
            return false;
        }
        return now.grown[yard] == told[0] && now.grown[yard + 1] == told[1]
            && now.grown[yard + SIDE] == told[2] && now.grown[yard + SIDE + 1] == told[3];
    }

    /** The kind alone is in question: the figure is the piece's own. */
    private int kindsAsTold(int yard) {
        int owner = now.owner[yard];
        int bits = 0;
        for (int kind = 0; kind < KINDS && owner != NONE; kind++) {
            bits |= grewAsTold(yard, kind, now.figure[owner]) ? 1 << kind : 0;
        }
        return bits;
    }

    /** The figure alone is in question: the kind is the piece's own. */
    private int figuresAsTold(int yard) {
        int owner = now.owner[yard];
        int bits = 0;
        for (int figure = 0; figure <= MOST_FIGURE && owner != NONE; figure++) {
            bits |= grewAsTold(yard, now.kind[owner], figure) ? 1 << figure : 0;
        }
        return bits;
    }

    private boolean grewAsTold(int yard, int kind, int figure) {
        int owner = now.owner[yard];
        boolean lies = owner != NONE && !now.rolled[owner];
        int grown = now.grown[yard];
        for (int ahead = 0; ahead < toldLength; ahead++) {
            if (told[ahead] != grown) {
                return false;
            }
            int growth = lies ? Growth.ofKind(kind, figure, now.day + ahead + 1) : 0;
            grown = Math.min(THISTLE, grown + growth);
        }
        return true;
    }

    /** By how much a kind grows on a day. */
    private static final class Growth {
        static int ofKind(int kind, int figure, int day) {
            int piece = day % 3 == 0 ? 1 : 0;
            int turf = piece + (day % 2 == 0 ? 1 : 0);
            int meadow = turf + figure / 4;
            switch (kind) {
                case TURF: return turf;
                case MEADOW: return meadow;
                case COMMON: return (meadow + 1) / 2;
                case FIELD: return piece + (day % 7 == 0 ? figure / 3 : 0);
                case HOLE: return 0;
                default: return piece;
            }
        }
    }

    /** Pieces, what is grown, and the day; the arrays are made once and used again. */
    private static final class Land {
        final int[] grown = new int[YARDS];
        final int[] owner = new int[YARDS];
        final int[] kind = new int[MOST_PIECES];
        final int[] figure = new int[MOST_PIECES];
        final int[] first = new int[MOST_PIECES];
        final int[] high = new int[MOST_PIECES];
        final int[] wide = new int[MOST_PIECES];
        final boolean[] rolled = new boolean[MOST_PIECES];
        private final int[] gain = new int[MOST_PIECES];
        int pieces;
        int day;

        Land() {
            for (int yard = 0; yard < YARDS; yard++) {
                owner[yard] = NONE;
            }
        }

        void copyFrom(Land other) {
            System.arraycopy(other.grown, 0, grown, 0, YARDS);
            System.arraycopy(other.owner, 0, owner, 0, YARDS);
            for (int piece = 0; piece < MOST_PIECES; piece++) {
                kind[piece] = other.kind[piece];
                figure[piece] = other.figure[piece];
                first[piece] = other.first[piece];
                high[piece] = other.high[piece];
                wide[piece] = other.wide[piece];
                rolled[piece] = other.rolled[piece];
            }
            pieces = other.pieces;
            day = other.day;
        }

        boolean hasPiece(int piece) {
            return piece >= 0 && piece < pieces;
        }

        /** Whether a piece from there, so high and so wide, lies within the land and has room. */
        boolean canLay(int from, int rows, int columns) {
            return pieces < MOST_PIECES && isYard(from) && rows >= 1 && columns >= 1
                && from / SIDE + rows <= SIDE && from % SIDE + columns <= SIDE;
        }

        void lay(int itsKind, int itsFigure, int from, int rows, int columns) {
            if (!canLay(from, rows, columns)) {
                return;
            }
            kind[pieces] = itsKind;
            figure[pieces] = itsFigure;
            first[pieces] = from;
            high[pieces] = rows;
            wide[pieces] = columns;
            rolled[pieces] = false;
            pieces++;
            settleWithout(NONE);
        }

        /** Each yard goes to the least piece that has it, one piece left out of it. */
        void settleWithout(int without) {
            for (int yard = 0; yard < YARDS; yard++) {
                owner[yard] = NONE;
                for (int piece = pieces - 1; piece >= 0; piece--) {
                    if (piece != without && covers(piece, yard)) {
                        owner[yard] = piece;
                    }
                }
            }
        }

        private boolean covers(int piece, int yard) {
            int down = yard / SIDE - first[piece] / SIDE;
            int right = yard % SIDE - first[piece] % SIDE;
            return down >= 0 && down < high[piece] && right >= 0 && right < wide[piece];
        }

        boolean overlap(int one, int other) {
            for (int yard = 0; yard < YARDS; yard++) {
                if (covers(one, yard) && covers(other, yard)) {
                    return true;
                }
            }
            return false;
        }

        void turnOver(int piece) {
            rolled[piece] = !rolled[piece];
        }

        void treadDown(int piece) {
            for (int yard = 0; yard < YARDS; yard++) {
                if (owner[yard] == piece) {
                    grown[yard] = 0;
                }
            }
        }

        int growthOn(int piece, int onDay) {
            return rolled[piece] ? 0 : Growth.ofKind(kind[piece], figure[piece], onDay);
        }

        /** Nothing shrinks by itself, so the days' growth can be put together first. */
        private int growthOver(int piece, int n) {
            int together = 0;
            for (int ahead = 1; ahead <= n && together < THISTLE && !rolled[piece]; ahead++) {
                together += Growth.ofKind(kind[piece], figure[piece], day + ahead);
            }
            return together;
        }

        void passDays(int n) {
            for (int piece = 0; piece < pieces; piece++) {
                gain[piece] = growthOver(piece, n);
            }
            for (int yard = 0; yard < YARDS; yard++) {
                if (owner[yard] != NONE) {
                    grown[yard] = Math.min(THISTLE, grown[yard] + gain[owner[yard]]);
                }
            }
            day += n;
        }

        int grownBehind(int yard, int n) {
            int growth = owner[yard] == NONE ? 0 : growthOver(owner[yard], n);
            return Math.min(THISTLE, grown[yard] + growth);
        }

        /** One more than the farthest thought if it never comes. */
        int daysToThistle(int piece) {
            int most = mostGrownOn(piece);
            for (int ahead = 0; ahead <= FARTHEST_THOUGHT && most != NONE; ahead++) {
                if (most >= THISTLE) {
                    return ahead;
                }
                most += growthOn(piece, day + ahead + 1);
            }
            return FARTHEST_THOUGHT + 1;
        }

        /** NONE where no yard belongs to it. */
        int mostGrownOn(int piece) {
            int most = NONE;
            for (int yard = 0; yard < YARDS; yard++) {
                if (owner[yard] == piece) {
                    most = Math.max(most, grown[yard]);
                }
            }
            return most;
        }

        int grownOn(int piece) {
            int together = 0;
            for (int yard = 0; yard < YARDS; yard++) {
                together += owner[yard] == piece ? grown[yard] : 0;
            }
            return together;
        }

        int yardsOf(int piece) {
            int many = 0;
            for (int yard = 0; yard < YARDS; yard++) {
                many += owner[yard] == piece ? 1 : 0;
            }
            return many;
        }

        int allGrown() {
            int together = 0;
            for (int yard = 0; yard < YARDS; yard++) {
                together += grown[yard];
            }
            return together;
        }

        int countThistles() {
            int many = 0;
            for (int yard = 0; yard < YARDS; yard++) {
                many += grown[yard] == THISTLE ? 1 : 0;
            }
            return many;
        }

        boolean isOpen(int yard) {
            int its = owner[yard];
            return grown[yard] != THISTLE && (its == NONE || !rolled[its] && kind[its] != HOLE);
        }

        int countOpen() {
            int many = 0;
            for (int yard = 0; yard < YARDS; yard++) {
                many += isOpen(yard) ? 1 : 0;
            }
            return many;
        }

        int rolledBits() {
            int bits = 0;
            for (int piece = 0; piece < pieces; piece++) {
                bits |= rolled[piece] ? 1 << piece : 0;
            }
            return bits;
        }

        /** The next piece by turns that is not rolled up; NONE if all are. */
        int laidOutAfter(int last) {
            int piece = last;
            for (int tried = 0; tried < pieces; tried++) {
                piece = piece + 1 < pieces ? piece + 1 : 0;
                if (!rolled[piece]) {
                    return piece;
                }
            }
            return NONE;
        }

        boolean isAtEdge(int yard) {
            for (int direction = 0; direction < Walk.DIRECTIONS; direction++) {
                int next = Walk.beside(yard, direction);
                if (next != NONE && owner[next] != owner[yard]) {
                    return true;
                }
            }
            return false;
        }
    }

    /** Ways over open yards; its rows are used again by each search. */
    private static final class Walk {
        static final int DIRECTIONS = 4;
        private final int[] far = new int[YARDS];
        private final int[] waiting = new int[YARDS];

        /** Up, left, right, down; NONE beyond the land. */
        static int beside(int yard, int direction) {
            switch (direction) {
                case 0: return yard >= SIDE ? yard - SIDE : NONE;
                case 1: return yard % SIDE > 0 ? yard - 1 : NONE;
                case 2: return yard % SIDE < SIDE - 1 ? yard + 1 : NONE;
                default: return yard + SIDE < YARDS ? yard + SIDE : NONE;
            }
        }

        void measureFrom(Land land, int from) {
            for (int yard = 0; yard < YARDS; yard++) {
                far[yard] = NO_WAY;
            }
            if (!land.isOpen(from)) {
                return;
            }
            far[from] = 0;
            waiting[0] = from;
            int known = 1;
            for (int next = 0; next < known && next < YARDS; next++) {
                known = spread(land, waiting[next], known);
            }
        }

        /** Each yard waits once at most, so the row has room for all. */
        private int spread(Land land, int yard, int known) {
            int many = known;
            for (int direction = 0; direction < DIRECTIONS; direction++) {
                int next = beside(yard, direction);
                if (next != NONE && far[next] == NO_WAY && many < YARDS && land.isOpen(next)) {
                    far[next] = far[yard] + 1;
                    waiting[many] = next;
                    many++;
                }
            }
            return many;
        }

        int fewestSteps(Land land, int one, int other) {
            measureFrom(land, one);
            return far[other];
        }

        int countWithin(int steps) {
            int many = 0;
            for (int yard = 0; yard < YARDS; yard++) {
                many += far[yard] <= steps ? 1 : 0;
            }
            return many;
        }

        /** Measured from the end, so that each step goes to a yard nearer to it. */
        int standsAfter(Land land, int one, int other, int n) {
            measureFrom(land, other);
            if (far[one] == NO_WAY) {
                return NONE;
            }
            int stands = one;
            for (int step = 1; step <= n && far[stands] > 0; step++) {
                stands = nearer(stands);
            }
            return stands;
        }

        private int nearer(int yard) {
            for (int direction = 0; direction < DIRECTIONS; direction++) {
                int next = beside(yard, direction);
                if (next != NONE && far[next] < far[yard]) {
                    return next;
                }
            }
            return yard;
        }
    }

    /** Letters that have come, and how they are read. */
    private static final class Telling {
        private static final String KIND_LETTERS = "ptmcfh";
        private static final char KIND_SIGN = 'k';
        private static final char DIGIT_SIGN = 'd';
        private final int[] text = new int[MOST_LETTERS];
        int length;
        int statements;

        int add(int c) {
            if (length < MOST_LETTERS) {
                text[length] = c;
                length++;
            }
            return length;
        }

        /** What comes behind a statement's first letter; nothing if none begins so. */
        private static String formOf(int letter) {
            switch (letter) {
                case 'p': return "kddddd;";
                case 'r': return "d;";
                case 't': return "d;";
                case 'g': return "ddddd;";
                case 'd': return "dd;";
                default: return "";
            }
        }

        private static boolean fits(char sign, int letter) {
            if (sign == KIND_SIGN) {
                return KIND_LETTERS.indexOf((char) letter) >= 0;
            }
            return sign == DIGIT_SIGN ? letter >= '0' && letter <= '9' : letter == sign;
        }

        /** The place of the first letter with which no land can go on; NONE. */
        int firstOddLetter() {
            String form = "";
            int at = 0;
            for (int place = 0; place < length; place++) {
                if (at == form.length()) {
                    form = formOf(text[place]);
                    at = 0;
                    if (form.isEmpty()) {
                        return place;
                    }
                } else if (fits(form.charAt(at), text[place])) {
                    at++;
                } else {
                    return place;
                }
            }
            return length == 0 || at < form.length() ? length : NONE;
        }

        /** The place of the first statement that is not as it must be; NONE. */
        int tellTo(Land land) {
            statements = 0;
            for (int place = 0; place < length; place += 1 + formOf(text[place]).length()) {
                if (!tellStatement(land, place)) {
                    return place;
                }
                statements++;
            }
            return NONE;
        }

        private boolean tellStatement(Land land, int place) {
            switch (text[place]) {
                case 'p': return tellPiece(land, place + 1);
                case 'r': return tellRolled(land, number(place + 1, 1));
                case 't': return tellTrod(land, number(place + 1, 1));
                case 'g': return tellGrown(land, place + 1);
                default: return tellDays(land, number(place + 1, 2));
            }
        }

        private int number(int place, int digits) {
            int value = 0;
            for (int at = place; at < place + digits && at < length; at++) {
                value = 10 * value + text[at] - '0';
            }
            return value;
        }

        private boolean tellPiece(Land land, int place) {
            int from = number(place + 2, 2);
            int rows = number(place + 4, 1);
            int columns = number(place + 5, 1);
            if (place >= length || !land.canLay(from, rows, columns)) {
                return false;
            }
            land.lay(KIND_LETTERS.indexOf((char) text[place]), number(place + 1, 1), from, rows, columns);
            return true;
        }

        private static boolean tellRolled(Land land, int piece) {
            if (!land.hasPiece(piece)) {
                return false;
            }
            land.turnOver(piece);
            return true;
        }

        private static boolean tellTrod(Land land, int piece) {
            if (!land.hasPiece(piece) || land.rolled[piece]) {
                return false;
            }
            land.treadDown(piece);
            return true;
        }

        private boolean tellGrown(Land land, int place) {
            int one = number(place, 2);
            int other = number(place + 2, 2);
            if (!isYard(one) || !isYard(other) || one > other) {
                return false;
            }
            for (int yard = one; yard <= other; yard++) {
                land.grown[yard] = number(place + 4, 1);
            }
            return true;
        }

        private static boolean tellDays(Land land, int n) {
            if (n < 1 || n > MOST_DAYS_AT_ONCE || land.day + n > LAST_DAY) {
                return false;
            }
            land.passDays(n);
            return true;
        }
    }

    /** Whole numbers for odds and lots. */
    private static final class Odds {
        static long power(int base, int times) {
            long value = 1;
            for (int time = 0; time < times; time++) {
                value *= base;
            }
            return value;
        }

        /** Euclid's rests at least halve by twos: 100 is far above what two longs need. */
        static long commonDivisor(long one, long other) {
            long greater = other;
            long lesser = one;
            for (int time = 0; time < 100 && lesser != 0; time++) {
                long rest = greater % lesser;
                greater = lesser;
                lesser = rest;
            }
            return greater;
        }

        static int nextSeed(int seed) {
            return seed * 1664525 + 1013904223;
        }

        static int halfDraw(int seed) {
            return (seed & 0x7fffffff) / 256 % 2;
        }
    }
}
