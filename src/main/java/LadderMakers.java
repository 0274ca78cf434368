/**
 * Makers of snakes and ladders who must keep the mean length of a game.
 *
 * <p>A change is first made to a copy of the state; only when nothing is thrown does the copy
 * become the state. So a call that throws changes nothing.
 */
public final class LadderMakers {
    public static final int NONE = -1;

    private static final int LEAST_GOAL = 8;
    private static final int MOST_GOAL = 40;
    private static final int FIRST_GOAL = 20;
    private static final int SQUARES = MOST_GOAL + 1;
    private static final int MOST_LINKS = 10;
    private static final int DICE = 3;
    private static final int MOST_SIDES = 6;
    private static final int MOST_FACE = 9;
    private static final int MOST_ORDER = 4;
    private static final int SETTINGS = 3;
    private static final int BEYOND = 0;
    private static final int HORIZON = 1;
    private static final int TOLERANCE = 2;
    private static final int STAY = 0;
    private static final int GO_BACK = 1;
    private static final int MOST_TURNS = 8;
    private static final int MOST_TOLERANCE = 5000;
    private static final int MOST_PLAYERS = 4;
    private static final int MOST_PLAYER_TURNS = 1000;
    private static final int MOST_PATH = 40;
    private static final int MOST_SAVED = 6;
    private static final int MOST_CODES = 60;
    private static final int LEAST_CODE = 33;
    private static final int MOST_CODE = 126;
    private static final int MOST_WANTED = 8000;
    private static final int COUNTS = 14;
    private static final int FIRST_ORDER_COUNT = 10;

    private State now = new State();
    private State next = new State();
    private final History history = new History();
    private final int[] buffer = new int[MOST_CODES];
    private int bufferLength = 0;
    private final BoardText boardText = new BoardText();
    private final Outlook outlook = new Outlook();
    private final Moves triedMoves = new Moves();
    private final Tally triedMeans = new Tally();

    public LadderMakers() {
        outlook.takeBoard(now);
    }

    // ---- edits

    public int load() throws IllegalArgumentException, IllegalStateException {
        boardText.read(buffer, bufferLength);
        if (!boardText.complete) {
            throw new IllegalArgumentException("the buffer is not a complete board");
        }
        if (now.promised || boardText.linkCount > MOST_LINKS) {
            throw new IllegalStateException("there is a promise, or there are too many links");
        }
        startChange();
        if (!next.takeBoard(boardText)) {
            throw new IllegalStateException("a link is not allowed");
        }
        finishBoardChange();
        bufferLength = 0;
        return now.linkCount;
    }

    public int die(int die)
            throws IndexOutOfBoundsException, IllegalArgumentException, IllegalStateException {
        if (die < 0 || die >= DICE) {
            throw new IndexOutOfBoundsException("no such die");
        }
        if (bufferLength == 0 || firstErrorOfDie() < bufferLength) {
            throw new IllegalArgumentException("the buffer is not a complete die");
        }
        startChange();
        next.takeDie(die, buffer, bufferLength);
        if (!keepsPromise()) {
            throw new IllegalStateException("the promise would not be kept");
        }
        finishBoardChange();
        bufferLength = 0;
        return now.sidesOf(die);
    }

    public int order(int first, int second, int third, int fourth)
            throws IllegalArgumentException, IllegalStateException {
        boolean inRange = isDie(first) && isDieOrNone(second) && isDieOrNone(third)
                && isDieOrNone(fourth);
        boolean hasGap = second == NONE && third != NONE || third == NONE && fourth != NONE;
        if (!inRange || hasGap) {
            throw new IllegalArgumentException("no such order");
        }
        if (now.promised) {
            throw new IllegalStateException("there is a promise");
        }
        startChange();
        next.takeOrder(first, second, third, fourth);
        finishBoardChange();
        return now.orderLength;
    }

    public int link(int from, int to)
            throws IndexOutOfBoundsException, IllegalArgumentException, IllegalStateException {
        if (!now.hasSquare(from) || !now.hasSquare(to)) {
            throw new IndexOutOfBoundsException("no such square");
        }
        if (!now.allows(from, to, NONE)) {
            throw new IllegalArgumentException("the link is not allowed");
        }
        startChange();
        next.addLink(from, to);
        if (next.linkCount > MOST_LINKS || !keepsPromise()) {
            throw new IllegalStateException("too many links, or the promise would not be kept");
        }
        finishBoardChange();
        return now.linkCount - 1;
    }

    public int unlink(int link) throws IndexOutOfBoundsException, IllegalStateException {
        if (!now.hasLink(link)) {
            throw new IndexOutOfBoundsException("no such link");
        }
        startChange();
        next.dropLink(link);
        if (!keepsPromise()) {
            throw new IllegalStateException("the promise would not be kept");
        }
        finishBoardChange();
        return now.linkCount;
    }

    public int shift(int link, int from)
            throws IndexOutOfBoundsException, IllegalArgumentException, IllegalStateException {
        if (!now.hasLink(link) || !now.hasSquare(from)) {
            throw new IndexOutOfBoundsException("no such link or square");
        }
        if (!now.allows(from, now.endOf(link), link)) {
            throw new IllegalArgumentException("the link would not be allowed");
        }
        int previous = now.beginOf(link);
        startChange();
        next.moveBegin(link, from);
        if (!keepsPromise()) {
            throw new IllegalStateException("the promise would not be kept");
        }
        finishBoardChange();
        return previous;
    }

    public int set(int setting, int value)
            throws IndexOutOfBoundsException, IllegalArgumentException, IllegalStateException {
        if (setting < 0 || setting >= SETTINGS) {
            throw new IndexOutOfBoundsException("no such setting");
        }
        if (value < leastValue(setting) || value > mostValue(setting)) {
            throw new IllegalArgumentException("the value is out of range");
        }
        if (now.promised) {
            throw new IllegalStateException("there is a promise");
        }
        int previous = now.valueOf(setting);
        startChange();
        next.takeSetting(setting, value);
        finishBoardChange();
        return previous;
    }

    public int promise() {
        Tally means = outlook.knownMeans(now);
        startChange();
        next.takePromise(means.sumAt(0, 0), means.rollsFrom(0));
        finishChange();
        return now.promisedThousandths();
    }

    public int release() {
        int previous = now.promised ? 1 : 0;
        startChange();
        next.dropPromise();
        finishChange();
        return previous;
    }

    // ---- players

    public int addPlayer() throws IllegalStateException {
        if (now.playerCount >= MOST_PLAYERS) {
            throw new IllegalStateException("there are 4 players");
        }
        startChange();
        next.addPlayerOnStart();
        finishChange();
        return now.playerCount - 1;
    }

    public int roll(int player, int side)
            throws IndexOutOfBoundsException, IllegalArgumentException, IllegalStateException {
        if (!now.hasPlayer(player)) {
            throw new IndexOutOfBoundsException("no such player");
        }
        int turns = now.turnsOf(player);
        int die = now.dieOfTurn(turns);
        if (side < 0 || side >= now.sidesOf(die)) {
            throw new IllegalArgumentException("the die has no such side");
        }
        if (now.isOnGoal(player) || turns >= MOST_PLAYER_TURNS) {
            throw new IllegalStateException("the player can make no turn");
        }
        int target = now.landing(now.squareOf(player), now.faceOf(die, side));
        startChange();
        next.movePlayer(player, target);
        finishChange();
        return target;
    }

    // ---- texts

    public int append(int code) throws IllegalArgumentException, IllegalStateException {
        if (code < LEAST_CODE || code > MOST_CODE) {
            throw new IllegalArgumentException("the code is not 33 to 126");
        }
        if (bufferLength >= MOST_CODES) {
            throw new IllegalStateException("the buffer has 60 characters");
        }
        Rows.put(buffer, bufferLength, code);
        bufferLength++;
        return bufferLength;
    }

    public int clearBuffer() {
        int previous = bufferLength;
        bufferLength = 0;
        return previous;
    }

    public int firstError(boolean isBoard) {
        return isBoard ? boardText.read(buffer, bufferLength) : firstErrorOfDie();
    }

    public int undo() throws IllegalStateException {
        if (history.size == 0) {
            throw new IllegalStateException("there is no saved state");
        }
        history.restoreLatest(now);
        outlook.takeBoard(now);
        return history.size;
    }

    // ---- what there is

    public int square(int square, int what)
            throws IndexOutOfBoundsException, IllegalArgumentException {
        if (!now.hasSquare(square)) {
            throw new IndexOutOfBoundsException("no such square");
        }
        switch (what) {
            case 0:
                return now.targetFrom(square);
            case 1:
                return now.linksTo(square, NONE);
            case 2:
                return now.playersOn(square);
            case 3:
                // No link begins at 0: where one can begin, it can lead to 0.
                return now.allows(square, 0, NONE) ? 1 : 0;
            default:
                throw new IllegalArgumentException("what is not 0 to 3");
        }
    }

    public int linkOf(int link, int what)
            throws IndexOutOfBoundsException, IllegalArgumentException {
        if (!now.hasLink(link)) {
            throw new IndexOutOfBoundsException("no such link");
        }
        switch (what) {
            case 0:
                return now.beginOf(link);
            case 1:
                return now.endOf(link);
            case 2:
                return now.endOf(link) - now.beginOf(link);
            default:
                throw new IllegalArgumentException("what is not 0 to 2");
        }
    }

    public int face(int die, int side)
            throws IndexOutOfBoundsException, IllegalArgumentException {
        if (die < 0 || die >= DICE) {
            throw new IndexOutOfBoundsException("no such die");
        }
        if (side < 0 || side >= MOST_SIDES) {
            throw new IllegalArgumentException("side is not 0 to 5");
        }
        return side < now.sidesOf(die) ? now.faceOf(die, side) : NONE;
    }

    public int player(int player, int what)
            throws IndexOutOfBoundsException, IllegalArgumentException {
        if (!now.hasPlayer(player)) {
            throw new IndexOutOfBoundsException("no such player");
        }
        switch (what) {
            case 0:
                return now.squareOf(player);
            case 1:
                return now.turnsOf(player);
            case 2:
                return now.isOnGoal(player) ? 1 : 0;
            case 3:
                return now.dieOfTurn(now.turnsOf(player));
            case 4:
                return now.rankOf(player);
            default:
                throw new IllegalArgumentException("what is not 0 to 4");
        }
    }

    public int count(int what) throws IllegalArgumentException {
        if (what < 0 || what >= COUNTS) {
            throw new IllegalArgumentException("what is not 0 to 13");
        }
        switch (what) {
            case 0:
                return now.goal;
            case 1:
                return now.linkCount;
            case 2:
                return now.ladders();
            case 3:
                return now.linkCount - now.ladders();
            case 4:
                return now.playerCount;
            case 5:
                return now.playersOn(now.goal);
            case 6:
                return now.orderLength;
            case 7:
                return now.promised ? 1 : 0;
            case 8:
                return now.promisedThousandths();
            case 9:
                return history.size;
            default:
                return now.dieOfOrder(what - FIRST_ORDER_COUNT);
        }
    }

    public int setting(int setting) throws IndexOutOfBoundsException {
        if (setting < 0 || setting >= SETTINGS) {
            throw new IndexOutOfBoundsException("no such setting");
        }
        return now.valueOf(setting);
    }

    // ---- what would be; nothing is changed

    public int after(int square, int face)
            throws IndexOutOfBoundsException, IllegalArgumentException {
        if (!now.hasSquare(square) || square == now.goal) {
            throw new IndexOutOfBoundsException("no such square, or the goal");
        }
        if (face < 1 || face > MOST_FACE) {
            throw new IllegalArgumentException("the face is not 1 to 9");
        }
        return now.landing(square, face);
    }

    public long mean(int square, int part)
            throws IndexOutOfBoundsException, IllegalArgumentException {
        if (!now.hasSquare(square)) {
            throw new IndexOutOfBoundsException("no such square");
        }
        if (part < 0 || part > 1) {
            throw new IllegalArgumentException("part is not 0 or 1");
        }
        Tally means = outlook.knownMeans(now);
        return Fractions.lowest(means.sumAt(0, square), means.rollsFrom(0), part);
    }

    public long chance(int square, int turns, int part)
            throws IndexOutOfBoundsException, IllegalArgumentException {
        if (!now.hasSquare(square)) {
            throw new IndexOutOfBoundsException("no such square");
        }
        if (turns < 0 || turns > MOST_TURNS || part < 0 || part > 1) {
            throw new IllegalArgumentException("turns or part is out of range");
        }
        Tally misses = outlook.missesWithin(turns);
        long rolls = misses.rollsFrom(0);
        return Fractions.lowest(rolls - misses.sumAt(0, square), rolls, part);
    }

    public int shortest(int square, int turn)
            throws IndexOutOfBoundsException, IllegalArgumentException {
        if (!now.hasSquare(square)) {
            throw new IndexOutOfBoundsException("no such square");
        }
        if (turn < NONE || turn >= MOST_PATH) {
            throw new IllegalArgumentException("turn is not NONE or 0 to 39");
        }
        Paths paths = outlook.knownPaths();
        return turn == NONE ? paths.turnsFrom(0, square)
                : paths.faceInTurn(outlook.moves, square, turn);
    }

    public long ifLinked(int from, int to, int part)
            throws IndexOutOfBoundsException, IllegalArgumentException {
        if (!now.hasSquare(from) || !now.hasSquare(to)) {
            throw new IndexOutOfBoundsException("no such square");
        }
        if (!now.allows(from, to, NONE) || part < 0 || part > 2) {
            throw new IllegalArgumentException("the link is not allowed, or part is not 0 to 2");
        }
        startChange();
        next.addLink(from, to);
        if (part == 2) {
            return next.linkCount <= MOST_LINKS && keepsPromise() ? 1 : 0;
        }
        tryMeans();
        return Fractions.lowest(triedMeans.sumAt(0, 0), triedMeans.rollsFrom(0), part);
    }

    public int bestLink(int thousandths, int what) throws IllegalArgumentException {
        if (thousandths < 0 || thousandths > MOST_WANTED || what < 0 || what > 1) {
            throw new IllegalArgumentException("thousandths or what is out of range");
        }
        if (now.linkCount >= MOST_LINKS) {
            return NONE;
        }
        LinkSearch search = outlook.searchFor(now, thousandths);
        return what == 0 ? search.bestFrom : search.bestTo;
    }

    public int bestSide(int player) throws IndexOutOfBoundsException {
        if (!now.hasPlayer(player)) {
            throw new IndexOutOfBoundsException("no such player");
        }
        if (now.isOnGoal(player)) {
            return NONE;
        }
        Tally means = outlook.knownMeans(now);
        int die = now.dieOfTurn(now.turnsOf(player));
        int best = NONE;
        long bestSum = 0;
        for (int side = 0; side < now.sidesOf(die); side++) {
            int target = now.landing(now.squareOf(player), now.faceOf(die, side));
            long sum = means.sumAt(0, target);
            if (best == NONE || sum < bestSum) {
                best = side;
                bestSum = sum;
            }
        }
        return best;
    }

    public double meanLength() {
        long numerator = mean(0, 0);
        long denominator = mean(0, 1);
        return denominator == 0 ? 0 : (double) numerator / (double) denominator;
    }

    public long digest() {
        long hash = 2383;
        for (int what = 0; what < COUNTS; what++) {
            hash = mix(hash, count(what));
        }
        for (int setting = 0; setting < SETTINGS; setting++) {
            hash = mix(hash, setting(setting));
        }
        hash = mixSquares(hash);
        hash = mixLinks(hash);
        hash = mixDice(hash);
        hash = mixPlayers(hash);
        hash = mix(hash, chance(0, 3, 0));
        hash = mix(hash, chance(0, 3, 1));
        for (int turn = 0; turn < 8; turn++) {
            hash = mix(hash, shortest(0, turn));
        }
        hash = mix(hash, bestLink(3000, 0));
        hash = mix(hash, bestLink(3000, 1));
        hash = mix(hash, Fractions.bitsOf(meanLength()));
        return mixBuffer(hash);
    }

    private static long mix(long hash, long value) {
        return 31 * hash + value;
    }

    private long mixSquares(long start) {
        long hash = start;
        for (int square = 0; square <= now.goal; square++) {
            for (int what = 0; what < 4; what++) {
                hash = mix(hash, square(square, what));
            }
            hash = mix(hash, mean(square, 0));
            hash = mix(hash, mean(square, 1));
            hash = mix(hash, shortest(square, NONE));
        }
        return hash;
    }

    private long mixLinks(long start) {
        long hash = start;
        for (int link = 0; link < now.linkCount; link++) {
            for (int what = 0; what < 3; what++) {
                hash = mix(hash, linkOf(link, what));
            }
        }
        return hash;
    }

    private long mixDice(long start) {
        long hash = start;
        for (int die = 0; die < DICE; die++) {
            for (int side = 0; side < MOST_SIDES; side++) {
                hash = mix(hash, face(die, side));
            }
        }
        return hash;
    }

    private long mixPlayers(long start) {
        long hash = start;
        for (int player = 0; player < now.playerCount; player++) {
            for (int what = 0; what < 5; what++) {
                hash = mix(hash, player(player, what));
            }
            hash = mix(hash, bestSide(player));
        }
        return hash;
    }

    private long mixBuffer(long start) {
        long hash = mix(start, bufferLength);
        for (int index = 0; index < bufferLength; index++) {
            hash = mix(hash, Rows.at(buffer, index));
        }
        return hash;
    }

    private int firstErrorOfDie() {
        for (int index = 0; index < bufferLength; index++) {
            int code = Rows.at(buffer, index);
            if (index >= MOST_SIDES || code < '1' || code > '9') {
                return index;
            }
        }
        return bufferLength;
    }

    private static boolean isDie(int number) {
        return number >= 0 && number < DICE;
    }

    private static boolean isDieOrNone(int number) {
        return number == NONE || isDie(number);
    }

    private static int leastValue(int setting) {
        return setting == HORIZON ? 1 : 0;
    }

    private static int mostValue(int setting) {
        if (setting == BEYOND) {
            return 2;
        }
        return setting == HORIZON ? MOST_TURNS : MOST_TOLERANCE;
    }

    private void startChange() {
        next.copyFrom(now);
    }

    private void finishChange() {
        history.save(now);
        State previous = now;
        now = next;
        next = previous;
    }

    private void finishBoardChange() {
        finishChange();
        outlook.takeBoard(now);
    }

    private void tryMeans() {
        triedMoves.build(next);
        triedMeans.build(triedMoves, next.valueOf(HORIZON), 0, 1);
    }

    private boolean keepsPromise() {
        if (!next.promised) {
            return true;
        }
        tryMeans();
        return next.isNearPromise(triedMeans.sumAt(0, 0), triedMeans.rollsFrom(0));
    }

    /** Rows are reached through these alone, so that no index is used before it is tested. */
    private static final class Rows {
        static int at(int[] row, int index) {
            return index >= 0 && index < row.length ? row[index] : 0;
        }

        static long at(long[] row, int index) {
            return index >= 0 && index < row.length ? row[index] : 0;
        }

        static void put(int[] row, int index, int value) {
            if (index >= 0 && index < row.length) {
                row[index] = value;
            }
        }

        static void put(long[] row, int index, long value) {
            if (index >= 0 && index < row.length) {
                row[index] = value;
            }
        }

        static void copy(int[] source, int[] target) {
            for (int index = 0; index < source.length && index < target.length; index++) {
                target[index] = source[index];
            }
        }
    }

    private static final class Fractions {
        /** The numbers told here are 0 to 8 * 6^8, for which Euclid needs less than 100 steps. */
        static long commonDivisor(long first, long second) {
            long large = first;
            long small = second;
            for (int step = 0; step < 100 && small != 0; step++) {
                long rest = large % small;
                large = small;
                small = rest;
            }
            return large;
        }

        static long lowest(long numerator, long denominator, int part) {
            long divisor = commonDivisor(numerator, denominator);
            if (divisor == 0) {
                return part;
            }
            return part == 0 ? numerator / divisor : denominator / divisor;
        }

        /**
         * The mean of a board is 1 to 8, as no game is over before its first turn: so halving
         * alone brings it between 1 and 2, and both halving and scaling are exact.
         */
        static long bitsOf(double value) {
            double scaled = value;
            long exponent = 1023;
            for (int step = 0; step < 8 && scaled >= 2; step++) {
                scaled = scaled / 2;
                exponent++;
            }
            long mantissa = (long) ((scaled - 1) * 4503599627370496.0);
            return (exponent << 52) + mantissa;
        }
    }

    /** All that undo brings back. */
    private static final class State {
        int goal = FIRST_GOAL;
        int linkCount = 0;
        int orderLength = 1;
        int playerCount = 0;
        boolean promised = false;
        private long promisedSum = 0;
        private long promisedRolls = 1;
        // One place more than a board may have, for a link that is only tried.
        private final int[] begins = new int[MOST_LINKS + 1];
        private final int[] ends = new int[MOST_LINKS + 1];
        private final int[] faces = new int[DICE * MOST_SIDES];
        private final int[] sides = new int[DICE];
        private final int[] diceOrder = new int[MOST_ORDER];
        private final int[] values = new int[SETTINGS];
        private final int[] playerSquares = new int[MOST_PLAYERS];
        private final int[] playerTurns = new int[MOST_PLAYERS];

        State() {
            for (int index = 0; index < faces.length; index++) {
                faces[index] = index % MOST_SIDES + 1;
            }
            for (int die = 0; die < sides.length; die++) {
                sides[die] = MOST_SIDES;
            }
            Rows.put(values, HORIZON, 6);
            Rows.put(values, TOLERANCE, 100);
        }

        void copyFrom(State other) {
            goal = other.goal;
            linkCount = other.linkCount;
            orderLength = other.orderLength;
            playerCount = other.playerCount;
            promised = other.promised;
            promisedSum = other.promisedSum;
            promisedRolls = other.promisedRolls;
            Rows.copy(other.begins, begins);
            Rows.copy(other.ends, ends);
            Rows.copy(other.faces, faces);
            Rows.copy(other.sides, sides);
            Rows.copy(other.diceOrder, diceOrder);
            Rows.copy(other.values, values);
            Rows.copy(other.playerSquares, playerSquares);
            Rows.copy(other.playerTurns, playerTurns);
        }

        boolean hasSquare(int number) {
            return number >= 0 && number <= goal;
        }

        boolean hasLink(int number) {
            return number >= 0 && number < linkCount;
        }

        boolean hasPlayer(int number) {
            return number >= 0 && number < playerCount;
        }

        int beginOf(int link) {
            return Rows.at(begins, link);
        }

        int endOf(int link) {
            return Rows.at(ends, link);
        }

        int sidesOf(int die) {
            return Rows.at(sides, die);
        }

        int faceOf(int die, int side) {
            return Rows.at(faces, die * MOST_SIDES + side);
        }

        int valueOf(int setting) {
            return Rows.at(values, setting);
        }

        int squareOf(int player) {
            return Rows.at(playerSquares, player);
        }

        int turnsOf(int player) {
            return Rows.at(playerTurns, player);
        }

        boolean isOnGoal(int player) {
            return Rows.at(playerSquares, player) == goal;
        }

        int dieOfOrder(int place) {
            return place >= 0 && place < orderLength ? Rows.at(diceOrder, place) : NONE;
        }

        int dieOfTurn(int turn) {
            return orderLength > 0 ? Rows.at(diceOrder, turn % orderLength) : 0;
        }

        /** Links other than the excepted one that begin on the square. */
        int linksFrom(int square, int except) {
            int found = 0;
            for (int link = 0; link < linkCount; link++) {
                if (link != except && Rows.at(begins, link) == square) {
                    found++;
                }
            }
            return found;
        }

        /** Links other than the excepted one that end on the square. */
        int linksTo(int square, int except) {
            int found = 0;
            for (int link = 0; link < linkCount; link++) {
                if (link != except && Rows.at(ends, link) == square) {
                    found++;
                }
            }
            return found;
        }

        int targetFrom(int square) {
            for (int link = 0; link < linkCount; link++) {
                if (Rows.at(begins, link) == square) {
                    return Rows.at(ends, link);
                }
            }
            return NONE;
        }

        boolean allows(int from, int to, int except) {
            return from != to && from > 0 && from < goal && hasSquare(to)
                    && linksFrom(from, except) == 0 && linksTo(from, except) == 0
                    && linksFrom(to, except) == 0;
        }

        int ladders() {
            int found = 0;
            for (int link = 0; link < linkCount; link++) {
                if (endOf(link) > beginOf(link)) {
                    found++;
                }
            }
            return found;
        }

        int playersOn(int square) {
            int found = 0;
            for (int player = 0; player < playerCount; player++) {
                if (squareOf(player) == square) {
                    found++;
                }
            }
            return found;
        }

        int rankOf(int player) {
            int rank = 1;
            for (int other = 0; other < playerCount; other++) {
                boolean isAhead = squareOf(other) > squareOf(player);
                boolean isFaster = squareOf(other) == squareOf(player)
                        && turnsOf(other) < turnsOf(player);
                if (isAhead || isFaster) {
                    rank++;
                }
            }
            return rank;
        }

        int landing(int square, int face) {
            int target = square + face;
            if (target > goal) {
                int rule = Rows.at(values, BEYOND);
                if (rule == STAY) {
                    return square;
                }
                target = rule == GO_BACK ? goal - (target - goal) : goal;
            }
            int linked = targetFrom(target);
            return linked == NONE ? target : linked;
        }

        /** Returns whether all links of the text are allowed, each behind those ahead of it. */
        boolean takeBoard(BoardText text) {
            goal = text.goal;
            linkCount = 0;
            for (int link = 0; link < text.linkCount && link < MOST_LINKS; link++) {
                int from = text.beginOf(link);
                int to = text.endOf(link);
                if (!allows(from, to, NONE)) {
                    return false;
                }
                addLink(from, to);
            }
            for (int player = 0; player < playerCount; player++) {
                Rows.put(playerSquares, player, 0);
                Rows.put(playerTurns, player, 0);
            }
            return true;
        }

        void takeDie(int die, int[] codes, int length) {
            Rows.put(sides, die, length);
            for (int side = 0; side < length && side < MOST_SIDES; side++) {
                Rows.put(faces, die * MOST_SIDES + side, Rows.at(codes, side) - '0');
            }
        }

        void takeOrder(int first, int second, int third, int fourth) {
            orderLength = 0;
            appendToOrder(first);
            appendToOrder(second);
            appendToOrder(third);
            appendToOrder(fourth);
        }

        private void appendToOrder(int die) {
            if (die != NONE) {
                Rows.put(diceOrder, orderLength, die);
                orderLength++;
            }
        }

        void addLink(int from, int to) {
            Rows.put(begins, linkCount, from);
            Rows.put(ends, linkCount, to);
            linkCount++;
        }

        void dropLink(int dropped) {
            for (int link = dropped; link < linkCount - 1; link++) {
                Rows.put(begins, link, beginOf(link + 1));
                Rows.put(ends, link, endOf(link + 1));
            }
            linkCount--;
        }

        void moveBegin(int link, int from) {
            Rows.put(begins, link, from);
        }

        void takeSetting(int setting, int value) {
            Rows.put(values, setting, value);
        }

        void takePromise(long sum, long rolls) {
            promised = true;
            promisedSum = sum;
            promisedRolls = rolls;
        }

        void dropPromise() {
            promised = false;
        }

        int promisedThousandths() {
            if (!promised || promisedRolls == 0) {
                return NONE;
            }
            return (int) (promisedSum * 1000 / promisedRolls);
        }

        /** Compares by products, which stay below 10^17, as a quotient would be rounded. */
        boolean isNearPromise(long sum, long rolls) {
            long apart = Math.abs(sum * promisedRolls - promisedSum * rolls);
            return apart * 1000 <= valueOf(TOLERANCE) * rolls * promisedRolls;
        }

        void addPlayerOnStart() {
            Rows.put(playerSquares, playerCount, 0);
            Rows.put(playerTurns, playerCount, 0);
            playerCount++;
        }

        void movePlayer(int player, int target) {
            Rows.put(playerSquares, player, target);
            Rows.put(playerTurns, player, turnsOf(player) + 1);
        }
    }

    /** The saved states in a ring, so that the oldest one gives its place to the newest. */
    private static final class History {
        int size = 0;
        private int oldest = 0;
        private final State[] ring = new State[MOST_SAVED];

        History() {
            for (int place = 0; place < ring.length; place++) {
                ring[place] = new State();
            }
        }

        private State placeOf(int age) {
            int place = (oldest + age) % MOST_SAVED;
            return place >= 0 && place < ring.length ? ring[place] : null;
        }

        void save(State state) {
            if (size == MOST_SAVED) {
                oldest = (oldest + 1) % MOST_SAVED;
                size--;
            }
            State place = placeOf(size);
            if (place != null) {
                place.copyFrom(state);
            }
            size++;
        }

        void restoreLatest(State target) {
            State place = size > 0 ? placeOf(size - 1) : null;
            if (place != null) {
                target.copyFrom(place);
                size--;
            }
        }
    }

    /** Reads the text of a board; what it said stays here until the next one is read. */
    private static final class BoardText {
        private static final int IN_GOAL = 0;
        private static final int IN_BEGIN = 1;
        private static final int IN_END = 2;
        // Of 60 characters, 2 are the goal and ":", and a link takes 4 with its ",".
        private static final int MOST_TEXT_LINKS = 15;

        boolean complete = false;
        int goal = NONE;
        int linkCount = 0;
        private int stage = IN_GOAL;
        private int number = NONE;
        private final int[] begins = new int[MOST_TEXT_LINKS];
        private final int[] ends = new int[MOST_TEXT_LINKS];

        int beginOf(int link) {
            return Rows.at(begins, link);
        }

        int endOf(int link) {
            return Rows.at(ends, link);
        }

        /** Returns the index of the first syntax error, or the length. */
        int read(int[] codes, int length) {
            complete = false;
            goal = NONE;
            linkCount = 0;
            stage = IN_GOAL;
            number = NONE;
            for (int index = 0; index < length; index++) {
                if (!take(Rows.at(codes, index))) {
                    return index;
                }
            }
            complete = stage != IN_BEGIN && isWhole(number);
            if (complete) {
                finishNumber();
            }
            return length;
        }

        private boolean take(int code) {
            if (code >= '0' && code <= '9') {
                return takeDigit(code - '0');
            }
            if (code != separator() || !isWhole(number)) {
                return false;
            }
            finishNumber();
            return true;
        }

        private boolean takeDigit(int digit) {
            if (number == 0) {
                return false;
            }
            number = number == NONE ? digit : number * 10 + digit;
            return isWhole(number) || canGrow(number);
        }

        private int least() {
            return stage == IN_GOAL ? LEAST_GOAL : 0;
        }

        private boolean isWhole(int value) {
            return value >= least() && value <= MOST_GOAL;
        }

        private boolean canGrow(int value) {
            return value > 0 && value * 10 + 9 >= least() && value * 10 <= MOST_GOAL;
        }

        private int separator() {
            switch (stage) {
                case IN_GOAL:
                    return ':';
                case IN_BEGIN:
                    return '>';
                default:
                    return ',';
            }
        }

        private void finishNumber() {
            switch (stage) {
                case IN_GOAL:
                    goal = number;
                    stage = IN_BEGIN;
                    break;
                case IN_BEGIN:
                    Rows.put(begins, linkCount, number);
                    stage = IN_END;
                    break;
                default:
                    Rows.put(ends, linkCount, number);
                    linkCount++;
                    stage = IN_BEGIN;
                    break;
            }
            number = NONE;
        }
    }

    /**
     * Where each side of each die of the order leads from each square. The same places of the
     * order come again and again, so turns are told by their place in it.
     */
    private static final class Moves {
        int goal = 0;
        int places = 1;
        private final int[] sides = new int[MOST_ORDER];
        private final int[] faces = new int[MOST_ORDER * MOST_SIDES];
        private final int[] targets = new int[MOST_ORDER * SQUARES * MOST_SIDES];

        void build(State state) {
            goal = state.goal;
            places = state.orderLength;
            for (int place = 0; place < places; place++) {
                int die = state.dieOfOrder(place);
                int count = state.sidesOf(die);
                Rows.put(sides, place, count);
                for (int side = 0; side < count; side++) {
                    buildSide(state, place, side, state.faceOf(die, side));
                }
            }
        }

        private void buildSide(State state, int place, int side, int face) {
            Rows.put(faces, place * MOST_SIDES + side, face);
            for (int square = 0; square < goal; square++) {
                int index = (place * SQUARES + square) * MOST_SIDES + side;
                Rows.put(targets, index, state.landing(square, face));
            }
        }

        int placeOf(int turn) {
            return places > 0 ? turn % places : 0;
        }

        int sidesAt(int place) {
            return Rows.at(sides, place);
        }

        int faceAt(int place, int side) {
            return Rows.at(faces, place * MOST_SIDES + side);
        }

        int targetAt(int place, int square, int side) {
            return Rows.at(targets, (place * SQUARES + square) * MOST_SIDES + side);
        }

        long sidesTo(int place, int square, int wanted) {
            int first = (place * SQUARES + square) * MOST_SIDES;
            int end = first + Rows.at(sides, place);
            long found = 0;
            for (int index = first; index < end; index++) {
                if (Rows.at(targets, index) == wanted) {
                    found++;
                }
            }
            return found;
        }

        /** Adds up what a row tells, from an offset on, of the squares to which the sides lead. */
        long sumOverSides(int place, int square, long[] row, int offset) {
            int first = (place * SQUARES + square) * MOST_SIDES;
            int end = first + Rows.at(sides, place);
            long sum = 0;
            for (int index = first; index < end; index++) {
                sum += Rows.at(row, offset + Rows.at(targets, index));
            }
            return sum;
        }
    }

    /**
     * Sums over all rolls from a turn on, for each turn and each square on which one is then.
     * All rolls of the same turns are equally many, so that a sum by their number is a mean.
     */
    private static final class Tally {
        private final long[] rolls = new long[MOST_TURNS + 1];
        private final long[] sums = new long[(MOST_TURNS + 1) * SQUARES];

        /** What counts is perTurn for each turn made, and atEnd if one is not on the goal then. */
        void build(Moves moves, int turns, long atEnd, long perTurn) {
            Rows.put(rolls, turns, 1);
            for (int square = 0; square < moves.goal; square++) {
                Rows.put(sums, turns * SQUARES + square, atEnd);
            }
            Rows.put(sums, turns * SQUARES + moves.goal, 0);
            for (int turn = turns - 1; turn >= 0; turn--) {
                buildTurn(moves, turn, perTurn);
            }
        }

        private void buildTurn(Moves moves, int turn, long perTurn) {
            int place = moves.placeOf(turn);
            long rollsHere = rollsFrom(turn + 1) * moves.sidesAt(place);
            int behind = (turn + 1) * SQUARES;
            Rows.put(rolls, turn, rollsHere);
            for (int square = 0; square < moves.goal; square++) {
                long sum = moves.sumOverSides(place, square, sums, behind);
                Rows.put(sums, turn * SQUARES + square, perTurn * rollsHere + sum);
            }
            Rows.put(sums, turn * SQUARES + moves.goal, 0);
        }

        long rollsFrom(int turn) {
            return Rows.at(rolls, turn);
        }

        long sumAt(int turn, int square) {
            return Rows.at(sums, turn * SQUARES + square);
        }
    }

    /** How many turns the shortest game takes from each square, for each place of the order. */
    private static final class Paths {
        private final int[] turns = new int[MOST_ORDER * SQUARES];

        void build(Moves moves) {
            for (int index = 0; index < turns.length; index++) {
                turns[index] = NONE;
            }
            for (int place = 0; place < moves.places; place++) {
                Rows.put(turns, place * SQUARES + moves.goal, 0);
            }
            boolean goesOn = true;
            for (int length = 1; length <= MOST_PATH && goesOn; length++) {
                goesOn = false;
                for (int index = 0; index < turns.length; index++) {
                    int side = Rows.at(turns, index) == NONE
                            ? leastSide(moves, index / SQUARES, index % SQUARES, length) : NONE;
                    if (side != NONE) {
                        Rows.put(turns, index, length);
                        goesOn = true;
                    }
                }
            }
        }

        /** The side with the least face that leads to a shortest game of one turn less. */
        private int leastSide(Moves moves, int place, int square, int length) {
            if (place >= moves.places || square >= moves.goal) {
                return NONE;
            }
            int following = moves.placeOf(place + 1);
            int sides = moves.sidesAt(place);
            int least = NONE;
            int leastFace = 0;
            for (int side = 0; side < sides; side++) {
                int target = moves.targetAt(place, square, side);
                int face = moves.faceAt(place, side);
                boolean isShort = turnsFrom(following, target) == length - 1;
                if (isShort && (least == NONE || face < leastFace)) {
                    least = side;
                    leastFace = face;
                }
            }
            return least;
        }

        int turnsFrom(int place, int square) {
            return Rows.at(turns, place * SQUARES + square);
        }

        int faceInTurn(Moves moves, int start, int wanted) {
            int square = start;
            for (int turn = 0; turn <= wanted; turn++) {
                int place = moves.placeOf(turn);
                int length = turnsFrom(place, square);
                int side = length > 0 ? leastSide(moves, place, square, length) : NONE;
                if (side == NONE) {
                    return NONE;
                }
                if (turn == wanted) {
                    return moves.faceAt(place, side);
                }
                square = moves.targetAt(place, square, side);
            }
            return NONE;
        }
    }

    /**
     * Finds the best link without playing all games anew for each link: a link changes a game
     * only from the first turn on in which one comes to its beginning. So it is enough to know,
     * for each beginning, how many rolls bring one there for the first time in each turn.
     */
    private static final class LinkSearch {
        int bestFrom = NONE;
        int bestTo = NONE;
        private long bestApart = 0;
        // By place of the order, turns until then, and square at first.
        private final long[] firstComings = new long[MOST_ORDER * MOST_TURNS * SQUARES];
        private final long[] gains = new long[MOST_TURNS + 1];

        void build(State state, Moves moves, Tally means, int thousandths) {
            int horizon = state.valueOf(HORIZON);
            bestFrom = NONE;
            bestTo = NONE;
            for (int from = 1; from < state.goal; from++) {
                if (state.allows(from, 0, NONE)) {
                    buildComings(moves, from, horizon);
                    tryEnds(state, moves, means, from, thousandths);
                }
            }
        }

        private void tryEnds(State state, Moves moves, Tally means, int from, int thousandths) {
            int horizon = state.valueOf(HORIZON);
            long wanted = thousandths * means.rollsFrom(0);
            for (int to = 0; to <= state.goal; to++) {
                if (state.allows(from, to, NONE)) {
                    long sum = linkedSum(moves, means, from, to, horizon);
                    long apart = Math.abs(1000 * sum - wanted);
                    if (bestFrom == NONE || apart < bestApart) {
                        bestFrom = from;
                        bestTo = to;
                        bestApart = apart;
                    }
                }
            }
        }

        /**
         * A coming in the last turn changes nothing more; and with a later place of the order
         * fewer turns are left.
         */
        private void buildComings(Moves moves, int from, int horizon) {
            for (int turns = 1; turns < horizon; turns++) {
                for (int place = 0; place < moves.places && place + turns < horizon; place++) {
                    buildComingsAt(moves, from, place, turns);
                }
            }
        }

        private void buildComingsAt(Moves moves, int from, int place, int turns) {
            int row = rowOf(place, turns);
            int behind = rowOf(moves.placeOf(place + 1), turns - 1);
            for (int square = 0; square < moves.goal; square++) {
                long comings = 0;
                if (square != from) {
                    comings = turns == 1 ? moves.sidesTo(place, square, from)
                            : moves.sumOverSides(place, square, firstComings, behind);
                }
                Rows.put(firstComings, row + square, comings);
            }
            Rows.put(firstComings, row + moves.goal, 0);
        }

        private static int rowOf(int place, int turns) {
            return (place * MOST_TURNS + turns) * SQUARES;
        }

        /** The gain of a turn is what it adds that one is on the end instead of the beginning. */
        private long linkedSum(Moves moves, Tally means, int from, int to, int horizon) {
            for (int turn = horizon - 1; turn >= 1; turn--) {
                long gain = means.sumAt(turn, to) - means.sumAt(turn, from);
                Rows.put(gains, turn, gain + laterGains(moves, turn, to, horizon));
            }
            return means.sumAt(0, 0) + laterGains(moves, 0, 0, horizon);
        }

        private long laterGains(Moves moves, int turn, int square, int horizon) {
            int place = moves.placeOf(turn);
            long sum = 0;
            for (int later = turn + 1; later < horizon; later++) {
                long comings = Rows.at(firstComings, rowOf(place, later - turn) + square);
                sum += comings * Rows.at(gains, later);
            }
            return sum;
        }
    }

    /** What is found about the state is kept until its board, dice or settings change. */
    private static final class Outlook {
        final Moves moves = new Moves();
        private final Tally means = new Tally();
        private final Tally misses = new Tally();
        private final Paths paths = new Paths();
        private final LinkSearch search = new LinkSearch();
        private boolean knowsMeans = false;
        private boolean knowsPaths = false;
        private int missesTurns = NONE;
        private int searchedThousandths = NONE;

        void takeBoard(State state) {
            moves.build(state);
            knowsMeans = false;
            knowsPaths = false;
            missesTurns = NONE;
            searchedThousandths = NONE;
        }

        Tally knownMeans(State state) {
            if (!knowsMeans) {
                means.build(moves, state.valueOf(HORIZON), 0, 1);
                knowsMeans = true;
            }
            return means;
        }

        /** Counts the rolls of so many turns by which one is not on the goal. */
        Tally missesWithin(int turns) {
            if (missesTurns != turns) {
                misses.build(moves, turns, 1, 0);
                missesTurns = turns;
            }
            return misses;
        }

        Paths knownPaths() {
            if (!knowsPaths) {
                paths.build(moves);
                knowsPaths = true;
            }
            return paths;
        }

        LinkSearch searchFor(State state, int thousandths) {
            if (searchedThousandths != thousandths) {
                search.build(state, moves, knownMeans(state), thousandths);
                searchedThousandths = thousandths;
            }
            return search;
        }
    }
}
