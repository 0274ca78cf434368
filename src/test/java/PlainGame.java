import java.math.BigInteger;
import java.util.ArrayList;
import java.util.HashMap;
import java.util.List;
import java.util.Map;

/** The document once more, read word by word and without any thought of speed. */
final class PlainGame {
    static final int NONE = -1;

    private static final class Fraction {
        final BigInteger numerator;
        final BigInteger denominator;

        Fraction(BigInteger numerator, BigInteger denominator) {
            BigInteger divisor = numerator.gcd(denominator);
            this.numerator = numerator.divide(divisor);
            this.denominator = denominator.divide(divisor);
        }

        static Fraction of(long numerator, long denominator) {
            return new Fraction(BigInteger.valueOf(numerator), BigInteger.valueOf(denominator));
        }

        Fraction plus(Fraction other) {
            return new Fraction(numerator.multiply(other.denominator)
                    .add(other.numerator.multiply(denominator)),
                    denominator.multiply(other.denominator));
        }

        Fraction times(long numerator, long denominator) {
            return new Fraction(this.numerator.multiply(BigInteger.valueOf(numerator)),
                    this.denominator.multiply(BigInteger.valueOf(denominator)));
        }

        Fraction apart(Fraction other) {
            Fraction sum = plus(other.times(-1, 1));
            return new Fraction(sum.numerator.abs(), sum.denominator);
        }

        int compare(Fraction other) {
            return numerator.multiply(other.denominator)
                    .compareTo(other.numerator.multiply(denominator));
        }

        long part(int part) {
            return (part == 0 ? numerator : denominator).longValueExact();
        }

        int thousandths() {
            return numerator.multiply(BigInteger.valueOf(1000)).divide(denominator).intValueExact();
        }
    }

    private int goal = 20;
    private List<int[]> links = new ArrayList<>();
    private String[] dice = {"123456", "123456", "123456"};
    private int[] order = {0};
    private int[] settings = {0, 6, 100};
    private Fraction promised = null;
    private List<int[]> players = new ArrayList<>();
    private String buffer = "";
    private final List<PlainGame> saved = new ArrayList<>();

    private PlainGame copy() {
        PlainGame c = new PlainGame();
        c.goal = goal;
        for (int[] link : links) {
            c.links.add(link.clone());
        }
        c.dice = dice.clone();
        c.order = order.clone();
        c.settings = settings.clone();
        c.promised = promised;
        for (int[] player : players) {
            c.players.add(player.clone());
        }
        return c;
    }

    private void take(PlainGame c) {
        goal = c.goal;
        links = c.links;
        dice = c.dice;
        order = c.order;
        settings = c.settings;
        promised = c.promised;
        players = c.players;
    }

    private void change(PlainGame changed) {
        saved.add(copy());
        if (saved.size() > 6) {
            saved.remove(0);
        }
        take(changed);
    }

    private static void index(boolean holds) {
        if (!holds) {
            throw new IndexOutOfBoundsException();
        }
    }

    private static void argument(boolean holds) {
        if (!holds) {
            throw new IllegalArgumentException();
        }
    }

    private static void state(boolean holds) {
        if (!holds) {
            throw new IllegalStateException();
        }
    }

    private boolean isSquare(int square) {
        return 0 <= square && square <= goal;
    }

    private boolean isAllowed(int from, int to) {
        if (from == to || from == 0 || from == goal || !isSquare(from) || !isSquare(to)) {
            return false;
        }
        for (int[] link : links) {
            if (link[0] == from || link[1] == from || link[0] == to) {
                return false;
            }
        }
        return true;
    }

    private void keep(PlainGame changed) {
        if (promised != null) {
            Fraction apart = changed.meanFrom(0).apart(promised);
            state(apart.compare(Fraction.of(settings[2], 1000)) <= 0);
        }
    }

    // ---- edits

    static final String GOAL = "(?:[89]|[123][0-9]|40)";
    static final String SQUARE = "(?:[0-9]|[123][0-9]|40)";
    static final String LINK = SQUARE + ">" + SQUARE;
    static final String BOARD = GOAL + "(?::" + LINK + "(?:," + LINK + ")*)?";

    int load() {
        argument(buffer.matches(BOARD));
        state(promised == null);
        String[] parts = buffer.split(":");
        String[] texts = parts.length == 1 ? new String[0] : parts[1].split(",");
        state(texts.length <= 10);
        PlainGame c = copy();
        c.goal = Integer.parseInt(parts[0]);
        c.links.clear();
        for (String text : texts) {
            String[] ends = text.split(">");
            int from = Integer.parseInt(ends[0]);
            int to = Integer.parseInt(ends[1]);
            state(c.isAllowed(from, to));
            c.links.add(new int[] {from, to});
        }
        for (int[] player : c.players) {
            player[0] = 0;
            player[1] = 0;
        }
        change(c);
        buffer = "";
        return links.size();
    }

    int die(int die) {
        index(die >= 0 && die <= 2);
        argument(buffer.matches("[1-9]{1,6}"));
        PlainGame c = copy();
        c.dice[die] = buffer;
        keep(c);
        change(c);
        buffer = "";
        return dice[die].length();
    }

    int order(int... numbers) {
        int length = 0;
        for (int i = 0; i < 4; i++) {
            argument(numbers[i] >= (i == 0 ? 0 : NONE) && numbers[i] <= 2);
            if (numbers[i] != NONE) {
                argument(length == i);
                length++;
            }
        }
        state(promised == null);
        PlainGame c = copy();
        c.order = java.util.Arrays.copyOf(numbers, length);
        change(c);
        return length;
    }

    int link(int from, int to) {
        index(isSquare(from) && isSquare(to));
        argument(isAllowed(from, to));
        state(links.size() < 10);
        PlainGame c = copy();
        c.links.add(new int[] {from, to});
        keep(c);
        change(c);
        return links.size() - 1;
    }

    int unlink(int link) {
        index(link >= 0 && link < links.size());
        PlainGame c = copy();
        c.links.remove(link);
        keep(c);
        change(c);
        return links.size();
    }

    int shift(int link, int from) {
        index(link >= 0 && link < links.size() && isSquare(from));
        PlainGame c = copy();
        int[] old = c.links.remove(link);
        argument(c.isAllowed(from, old[1]));
        c.links.add(link, new int[] {from, old[1]});
        keep(c);
        change(c);
        return old[0];
    }

    int set(int setting, int value) {
        index(setting >= 0 && setting <= 2);
        int[] least = {0, 1, 0};
        int[] most = {2, 8, 5000};
        argument(value >= least[setting] && value <= most[setting]);
        state(promised == null);
        int previous = settings[setting];
        PlainGame c = copy();
        c.settings[setting] = value;
        change(c);
        return previous;
    }

    int promise() {
        PlainGame c = copy();
        c.promised = meanFrom(0);
        change(c);
        return promised.thousandths();
    }

    int release() {
        int was = promised == null ? 0 : 1;
        PlainGame c = copy();
        c.promised = null;
        change(c);
        return was;
    }

    // ---- players

    int addPlayer() {
        state(players.size() < 4);
        PlainGame c = copy();
        c.players.add(new int[2]);
        change(c);
        return players.size() - 1;
    }

    private String dieOfTurn(int turn) {
        return dice[order[turn % order.length]];
    }

    int roll(int player, int side) {
        index(player >= 0 && player < players.size());
        int[] p = players.get(player);
        argument(side >= 0 && side < dieOfTurn(p[1]).length());
        state(p[0] != goal && p[1] < 1000);
        PlainGame c = copy();
        c.players.set(player,
                new int[] {move(p[0], dieOfTurn(p[1]).charAt(side) - '0'), p[1] + 1});
        change(c);
        return players.get(player)[0];
    }

    // ---- texts

    int append(int code) {
        argument(code >= 33 && code <= 126);
        state(buffer.length() < 60);
        buffer += (char) code;
        return buffer.length();
    }

    int clearBuffer() {
        int length = buffer.length();
        buffer = "";
        return length;
    }

    private static final String[] BOARD_ENDS = {"", "0", "8", "0>8", ":1>2", "1>2", ">2", "2"};

    /** A text begins a board if there is an end with which it is one. */
    private static boolean beginsBoard(String text) {
        for (String end : BOARD_ENDS) {
            if ((text + end).matches(BOARD)) {
                return true;
            }
        }
        return false;
    }

    int firstError(boolean isBoard) {
        int index = 0;
        while (index < buffer.length()) {
            String text = buffer.substring(0, index + 1);
            if (isBoard ? !beginsBoard(text) : !text.matches("[1-9]{1,6}")) {
                return index;
            }
            index++;
        }
        return index;
    }

    int undo() {
        state(!saved.isEmpty());
        take(saved.remove(saved.size() - 1));
        return saved.size();
    }

    // ---- what there is

    private int count(List<int[]> rows, int column, int value) {
        int found = 0;
        for (int[] row : rows) {
            found += row[column] == value ? 1 : 0;
        }
        return found;
    }

    int square(int square, int what) {
        index(isSquare(square));
        argument(what >= 0 && what <= 3);
        if (what == 0) {
            for (int[] link : links) {
                if (link[0] == square) {
                    return link[1];
                }
            }
            return NONE;
        }
        if (what == 3) {
            for (int to = 0; to <= goal; to++) {
                if (isAllowed(square, to)) {
                    return 1;
                }
            }
            return 0;
        }
        return what == 1 ? count(links, 1, square) : count(players, 0, square);
    }

    int linkOf(int link, int what) {
        index(link >= 0 && link < links.size());
        argument(what >= 0 && what <= 2);
        int[] l = links.get(link);
        return what == 2 ? l[1] - l[0] : l[what];
    }

    int face(int die, int side) {
        index(die >= 0 && die <= 2);
        argument(side >= 0 && side <= 5);
        return side < dice[die].length() ? dice[die].charAt(side) - '0' : NONE;
    }

    int player(int player, int what) {
        index(player >= 0 && player < players.size());
        argument(what >= 0 && what <= 4);
        int[] p = players.get(player);
        if (what < 2) {
            return p[what];
        }
        if (what == 2) {
            return p[0] == goal ? 1 : 0;
        }
        if (what == 3) {
            return order[p[1] % order.length];
        }
        int rank = 1;
        for (int[] other : players) {
            rank += other[0] > p[0] || other[0] == p[0] && other[1] < p[1] ? 1 : 0;
        }
        return rank;
    }

    int count(int what) {
        argument(what >= 0 && what <= 13);
        int ladders = 0;
        for (int[] link : links) {
            ladders += link[1] > link[0] ? 1 : 0;
        }
        int[] counts = {goal, links.size(), ladders, links.size() - ladders, players.size(),
            count(players, 0, goal), order.length, promised == null ? 0 : 1,
            promised == null ? NONE : promised.thousandths(), saved.size()};
        if (what < 10) {
            return counts[what];
        }
        return what - 10 < order.length ? order[what - 10] : NONE;
    }

    int setting(int setting) {
        index(setting >= 0 && setting <= 2);
        return settings[setting];
    }

    // ---- what would be

    private int move(int square, int face) {
        int target = square;
        for (int left = face; left > 0; left--) {
            if (target == goal) {
                if (settings[0] == 0) {
                    return square;
                }
                target = settings[0] == 1 ? goal - left : goal;
                break;
            }
            target++;
        }
        for (int[] link : links) {
            if (link[0] == target) {
                return link[1];
            }
        }
        return target;
    }

    int after(int square, int face) {
        index(isSquare(square) && square != goal);
        argument(face >= 1 && face <= 9);
        return move(square, face);
    }

    /** The chances of all squares behind so many turns, as counts of rolls. */
    private Map<Integer, Long> spread(Map<Integer, Long> before, int turn) {
        Map<Integer, Long> behind = new HashMap<>();
        for (Map.Entry<Integer, Long> entry : before.entrySet()) {
            for (char face : dieOfTurn(turn).toCharArray()) {
                int square = entry.getKey();
                int target = square == goal ? goal : move(square, face - '0');
                behind.merge(target, entry.getValue(), Long::sum);
            }
        }
        return behind;
    }

    private Fraction chanceWithin(int square, int turns) {
        Map<Integer, Long> rolls = new HashMap<>();
        rolls.put(square, 1L);
        long all = 1;
        for (int turn = 0; turn < turns; turn++) {
            rolls = spread(rolls, turn);
            all *= dieOfTurn(turn).length();
        }
        return Fraction.of(rolls.getOrDefault(goal, 0L), all);
    }

    /** The mean length is the sum over the turns of the chances that they are made. */
    private Fraction meanFrom(int square) {
        Fraction mean = Fraction.of(0, 1);
        Map<Integer, Long> rolls = new HashMap<>();
        rolls.put(square, 1L);
        long all = 1;
        for (int turn = 0; turn < settings[1]; turn++) {
            mean = mean.plus(Fraction.of(all - rolls.getOrDefault(goal, 0L), all));
            rolls = spread(rolls, turn);
            all *= dieOfTurn(turn).length();
        }
        return mean;
    }

    long mean(int square, int part) {
        index(isSquare(square));
        argument(part == 0 || part == 1);
        return meanFrom(square).part(part);
    }

    long chance(int square, int turns, int part) {
        index(isSquare(square));
        argument(turns >= 0 && turns <= 8 && (part == 0 || part == 1));
        return chanceWithin(square, turns).part(part);
    }

    /** For each square that is reached in this turn the least of the faces by which it is. */
    private String shortestFaces(int square) {
        Map<Integer, String> games = new HashMap<>();
        games.put(square, "");
        for (int turn = 0; turn <= 40; turn++) {
            if (games.containsKey(goal)) {
                return games.get(goal);
            }
            Map<Integer, String> longer = new HashMap<>();
            for (Map.Entry<Integer, String> entry : games.entrySet()) {
                for (char face : dieOfTurn(turn).toCharArray()) {
                    longer.merge(move(entry.getKey(), face - '0'), entry.getValue() + face,
                            (a, b) -> a.compareTo(b) <= 0 ? a : b);
                }
            }
            games = longer;
        }
        return null;
    }

    int shortest(int square, int turn) {
        index(isSquare(square));
        argument(turn >= NONE && turn <= 39);
        String faces = shortestFaces(square);
        if (faces == null) {
            return NONE;
        }
        if (turn == NONE) {
            return faces.length();
        }
        return turn < faces.length() ? faces.charAt(turn) - '0' : NONE;
    }

    private PlainGame linked(int from, int to) {
        PlainGame c = copy();
        c.links.add(new int[] {from, to});
        return c;
    }

    long ifLinked(int from, int to, int part) {
        index(isSquare(from) && isSquare(to));
        argument(isAllowed(from, to) && part >= 0 && part <= 2);
        if (part == 2) {
            try {
                copy().link(from, to);
                return 1;
            } catch (IllegalStateException refused) {
                return 0;
            }
        }
        return linked(from, to).meanFrom(0).part(part);
    }

    int bestLink(int thousandths, int what) {
        argument(thousandths >= 0 && thousandths <= 8000 && (what == 0 || what == 1));
        if (links.size() == 10) {
            return NONE;
        }
        int[] best = {NONE, NONE};
        Fraction bestApart = null;
        for (int from = 0; from <= goal; from++) {
            for (int to = 0; to <= goal; to++) {
                if (isAllowed(from, to)) {
                    Fraction apart = linked(from, to).meanFrom(0)
                            .apart(Fraction.of(thousandths, 1000));
                    if (bestApart == null || apart.compare(bestApart) < 0) {
                        bestApart = apart;
                        best = new int[] {from, to};
                    }
                }
            }
        }
        return best[what];
    }

    int bestSide(int player) {
        index(player >= 0 && player < players.size());
        int[] p = players.get(player);
        if (p[0] == goal) {
            return NONE;
        }
        String die = dieOfTurn(p[1]);
        int best = 0;
        for (int side = 1; side < die.length(); side++) {
            Fraction mean = meanFrom(move(p[0], die.charAt(side) - '0'));
            if (mean.compare(meanFrom(move(p[0], die.charAt(best) - '0'))) < 0) {
                best = side;
            }
        }
        return best;
    }

    double meanLength() {
        Fraction mean = meanFrom(0);
        return (double) mean.part(0) / mean.part(1);
    }

    private final List<Long> digested = new ArrayList<>();

    long digest() {
        digested.clear();
        for (int what = 0; what <= 13; what++) {
            digested.add((long) count(what));
        }
        for (int setting = 0; setting <= 2; setting++) {
            digested.add((long) settings[setting]);
        }
        for (int square = 0; square <= goal; square++) {
            for (int what = 0; what <= 3; what++) {
                digested.add((long) square(square, what));
            }
            digested.add(mean(square, 0));
            digested.add(mean(square, 1));
            digested.add((long) shortest(square, NONE));
        }
        for (int[] link : links) {
            digested.add((long) link[0]);
            digested.add((long) link[1]);
            digested.add((long) link[1] - link[0]);
        }
        digestRest();
        long hash = 2383;
        for (long value : digested) {
            hash = 31 * hash + value;
        }
        return hash;
    }

    private void digestRest() {
        for (int die = 0; die <= 2; die++) {
            for (int side = 0; side <= 5; side++) {
                digested.add((long) face(die, side));
            }
        }
        for (int player = 0; player < players.size(); player++) {
            for (int what = 0; what <= 4; what++) {
                digested.add((long) player(player, what));
            }
            digested.add((long) bestSide(player));
        }
        digested.add(chance(0, 3, 0));
        digested.add(chance(0, 3, 1));
        for (int turn = 0; turn <= 7; turn++) {
            digested.add((long) shortest(0, turn));
        }
        digested.add((long) bestLink(3000, 0));
        digested.add((long) bestLink(3000, 1));
        digested.add(Double.doubleToLongBits(meanLength()));
        digested.add((long) buffer.length());
        for (char code : buffer.toCharArray()) {
            digested.add((long) code);
        }
    }
}
