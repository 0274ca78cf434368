/** All promises: long runs of calls, each answer against that of PlainGame. */
public final class RandomRunsTests {
    private static final int RUNS = 120;
    private static final int CALLS = 512;
    private static final int[] FAR = {Integer.MIN_VALUE, Integer.MAX_VALUE, -1, -2, 41, 1000, 1 << 20};

    private long seed;
    private LadderMakers x;
    private PlainGame y;
    private String call;
    private final StringBuilder told = new StringBuilder();

    public static void main(String[] args) {
        int runs = args.length > 0 ? Integer.parseInt(args[0]) : RUNS;
        int first = args.length > 1 ? Integer.parseInt(args[1]) : 1;
        for (int run = first; run < first + runs; run++) {
            if (!new RandomRunsTests().play(run)) {
                break;
            }
        }
        Check.end();
    }

    private int below(int bound) {
        seed = seed * 6364136223846793005L + 1442695040888963407L;
        return (int) ((seed >>> 33) % bound);
    }

    private boolean oneOf(int number) {
        return below(number) == 0;
    }

    /** A number from least to most; now and then one that lies outside, or far outside. */
    private int number(int least, int most) {
        if (oneOf(40)) {
            return FAR[below(FAR.length)];
        }
        if (oneOf(25)) {
            return oneOf(2) ? least - 1 : most + 1;
        }
        return least + below(Math.max(1, most - least + 1));
    }

    private int square() {
        return number(0, y.count(0));
    }

    private int begin() {
        for (int tries = 0; tries < 10; tries++) {
            int square = below(y.count(0) + 1);
            if (y.square(square, 3) == 1 && !oneOf(15)) {
                return square;
            }
        }
        return square();
    }

    private boolean play(int run) {
        seed = run * 7919L;
        x = new LadderMakers();
        y = new PlainGame();
        for (int index = 0; index < CALLS; index++) {
            boolean wholeState = oneOf(40) || index == CALLS - 1;
            if (wholeState ? !same("digest()", () -> x.digest(), () -> y.digest()) : !oneCall()) {
                Check.fail("in run " + run + ", call " + index + ", behind" + told);
                return false;
            }
        }
        return true;
    }

    private boolean same(String text, Check.Call tested, Check.Call plain) {
        call = text;
        Object got = answer(tested);
        Object want = answer(plain);
        told.append(' ').append(text);
        Check.isTrue(call + " answered " + got + ", due is " + want, got.equals(want));
        return got.equals(want);
    }

    private static Object answer(Check.Call call) {
        try {
            return call.run();
        } catch (RuntimeException thrown) {
            return thrown.getClass().getSimpleName();
        }
    }

    private boolean oneCall() {
        int kind = below(100);
        if (kind < 12) {
            return typed();
        }
        if (kind < 50) {
            return edited();
        }
        if (kind < 62) {
            return played();
        }
        if (kind < 78) {
            return looked();
        }
        return asked();
    }

    private boolean typed() {
        switch (below(6)) {
            case 0:
                return same("clearBuffer()", () -> x.clearBuffer(), () -> y.clearBuffer());
            case 1:
                return same("firstError(true)", () -> x.firstError(true), () -> y.firstError(true));
            case 2:
                return same("firstError(false)", () -> x.firstError(false), () -> y.firstError(false));
            case 3:
                int code = number(33, 126);
                return same("append(" + code + ")", () -> x.append(code), () -> y.append(code));
            default:
                return type(text());
        }
    }

    private boolean type(String text) {
        boolean right = same("clearBuffer()", () -> x.clearBuffer(), () -> y.clearBuffer());
        for (int index = 0; index < text.length(); index++) {
            int code = text.charAt(index);
            right &= same("append(" + code + ")", () -> x.append(code), () -> y.append(code));
        }
        return right;
    }

    private String text() {
        String text = oneOf(2) ? board() : faces();
        if (oneOf(5) && !text.isEmpty()) {
            int place = below(text.length());
            String signs = "0123456789:>,!";
            text = text.substring(0, place) + signs.charAt(below(signs.length()))
                    + text.substring(place + below(2));
        }
        return text;
    }

    private String faces() {
        StringBuilder faces = new StringBuilder();
        int sides = 1 + below(6);
        int most = oneOf(3) ? 3 : 9;
        for (int side = 0; side < sides; side++) {
            faces.append(1 + below(most));
        }
        return faces.toString();
    }

    private String board() {
        int goal = 8 + below(oneOf(2) ? 6 : 33);
        StringBuilder text = new StringBuilder().append(goal);
        int links = oneOf(6) ? 11 : below(7);
        boolean[] begins = new boolean[41];
        boolean[] ends = new boolean[41];
        for (int link = 0; link < links; link++) {
            int from = 1 + below(goal - 1);
            int to = oneOf(8) ? below(41) : below(goal + 1);
            boolean allowed = !begins[from] && !ends[from] && !begins[to] && from != to;
            if (allowed || oneOf(30)) {
                begins[from] = true;
                ends[to] = true;
                text.append(text.indexOf(":") < 0 ? ':' : ',').append(from).append('>').append(to);
            }
        }
        return text.toString();
    }

    private boolean edited() {
        int link = number(0, Math.max(0, y.count(1) - 1));
        int from = begin();
        int to = square();
        switch (below(12)) {
            case 0:
                return type(oneOf(8) ? text() : board())
                        && same("load()", () -> x.load(), () -> y.load());
            case 1:
                int die = number(0, 2);
                return type(oneOf(8) ? text() : faces())
                        && same("die(" + die + ")", () -> x.die(die), () -> y.die(die));
            case 2:
                return ordered();
            case 3:
            case 4:
            case 5:
                return same("link(" + from + "," + to + ")", () -> x.link(from, to),
                        () -> y.link(from, to));
            case 6:
                return same("unlink(" + link + ")", () -> x.unlink(link), () -> y.unlink(link));
            case 7:
                return same("shift(" + link + "," + from + ")", () -> x.shift(link, from),
                        () -> y.shift(link, from));
            case 8:
            case 9:
                return set();
            case 10:
                return oneOf(3) ? same("promise()", () -> x.promise(), () -> y.promise())
                        : same("release()", () -> x.release(), () -> y.release());
            default:
                return same("undo()", () -> x.undo(), () -> y.undo());
        }
    }

    private boolean ordered() {
        int[] dice = {number(0, 2), number(-1, 2), number(-1, 2), number(-1, 2)};
        for (int place = 2; place < 4; place++) {
            if (dice[place - 1] == -1 && !oneOf(10)) {
                dice[place] = -1;
            }
        }
        return same("order(" + java.util.Arrays.toString(dice) + ")",
                () -> x.order(dice[0], dice[1], dice[2], dice[3]), () -> y.order(dice));
    }

    private boolean set() {
        int setting = number(0, 2);
        int[] least = {0, 1, 0};
        int[] most = {2, 8, oneOf(2) ? 300 : 5000};
        int place = Math.floorMod(setting, 3);
        int value = number(least[place], most[place]);
        return same("set(" + setting + "," + value + ")", () -> x.set(setting, value),
                () -> y.set(setting, value));
    }

    private boolean played() {
        int player = number(0, Math.max(0, y.count(4) - 1));
        int side = number(0, oneOf(2) ? 5 : 1);
        switch (below(5)) {
            case 0:
                return same("addPlayer()", () -> x.addPlayer(), () -> y.addPlayer());
            case 1:
                return same("bestSide(" + player + ")", () -> x.bestSide(player),
                        () -> y.bestSide(player));
            default:
                return same("roll(" + player + "," + side + ")", () -> x.roll(player, side),
                        () -> y.roll(player, side));
        }
    }

    private boolean looked() {
        int square = square();
        int link = number(0, Math.max(0, y.count(1) - 1));
        int player = number(0, Math.max(0, y.count(4) - 1));
        int what = number(0, 4);
        int count = number(0, 13);
        int three = number(0, 2);
        int side = number(0, 5);
        switch (below(6)) {
            case 0:
                return same("square(" + square + "," + what + ")", () -> x.square(square, what),
                        () -> y.square(square, what));
            case 1:
                return same("linkOf(" + link + "," + three + ")", () -> x.linkOf(link, three),
                        () -> y.linkOf(link, three));
            case 2:
                return same("face(" + three + "," + side + ")", () -> x.face(three, side),
                        () -> y.face(three, side));
            case 3:
                return same("player(" + player + "," + what + ")", () -> x.player(player, what),
                        () -> y.player(player, what));
            case 4:
                return same("count(" + count + ")", () -> x.count(count), () -> y.count(count));
            default:
                return same("setting(" + three + ")", () -> x.setting(three), () -> y.setting(three));
        }
    }

    private boolean asked() {
        int square = square();
        int from = begin();
        int face = number(1, 9);
        int part = number(0, 1);
        int turns = number(0, 8);
        int turn = oneOf(2) ? number(-1, 5) : number(-1, 39);
        int parts = number(0, 2);
        switch (below(14)) {
            case 0:
            case 1:
                return same("after(" + square + "," + face + ")", () -> x.after(square, face),
                        () -> y.after(square, face));
            case 2:
            case 3:
                return same("mean(" + square + "," + part + ")", () -> x.mean(square, part),
                        () -> y.mean(square, part));
            case 4:
            case 5:
                return same("chance(" + square + "," + turns + "," + part + ")",
                        () -> x.chance(square, turns, part), () -> y.chance(square, turns, part));
            case 6:
            case 7:
            case 8:
                return same("shortest(" + square + "," + turn + ")", () -> x.shortest(square, turn),
                        () -> y.shortest(square, turn));
            case 9:
            case 10:
            case 11:
                return same("ifLinked(" + from + "," + square + "," + parts + ")",
                        () -> x.ifLinked(from, square, parts), () -> y.ifLinked(from, square, parts));
            case 12:
                return same("meanLength()", () -> Double.doubleToLongBits(x.meanLength()),
                        () -> Double.doubleToLongBits(y.meanLength()));
            default:
                int thousandths = number(0, 8000);
                return same("bestLink(" + thousandths + "," + part + ")",
                        () -> x.bestLink(thousandths, part), () -> y.bestLink(thousandths, part));
        }
    }
}
