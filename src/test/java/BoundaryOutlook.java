/** The boundary cases that the document names in the promises 23 to 31. */
final class BoundaryOutlook {
    private static final int NONE = LadderMakers.NONE;
    private static final String TEN = "20:1>0,2>0,3>0,4>0,5>0,6>0,7>0,8>0,9>0,10>0";
    private static final String NINE = "20:1>0,2>0,3>0,4>0,5>0,6>0,7>0,8>0,9>0";

    private BoundaryOutlook() {
    }

    static void run() {
        promise23();
        promise24();
        promise25();
        promise25Turns();
        promise26();
        promise26Turns();
        promise26FortyTurns();
        promise27();
        promise27LinkNow();
        promise27Refused();
        promise28();
        promise28Nearest();
        promise28Extremes();
        promise28None();
        promise29();
        promise30();
        promise31();
        promise31Edges();
    }

    /** By ones alone: each square is a turn of its own. */
    private static LadderMakers ones(String board) {
        LadderMakers x = Makers.withBoardAndDie(board, "1");
        x.set(1, 8);
        return x;
    }

    private static LadderMakers kept(String board, int tolerance) {
        LadderMakers x = ones(board);
        x.set(2, tolerance);
        x.promise();
        return x;
    }

    private static LadderMakers played() {
        LadderMakers x = Makers.withBoard("12:3>8,10>4");
        x.addPlayer();
        x.roll(0, 1);
        Makers.type(x, "8:1>2");
        return x;
    }

    private static void fraction(String what, long numerator, long denominator, long dueNumerator,
            long dueDenominator) {
        Check.due("numerator of " + what, numerator, dueNumerator);
        Check.due("denominator of " + what, denominator, dueDenominator);
    }

    // ---- after

    private static void promise23() {
        Doc.says(23, "Tells where a face leads.");
        LadderMakers x = played();
        int[] squares = {1, 2, 8, 4, 5, 6, 7, 8, 9};
        for (int face = 1; face <= 9; face++) {
            Check.due("face " + face, x.after(0, face), squares[face - 1]);
        }
        Doc.says(23, "`square`: a square, not the goal");
        Bounds.range("square", BoundaryOutlook::played, 0, 11, Check.NO_INDEX,
                (y, v) -> y.after(v, 1));
        Bounds.range("square of the least board", () -> Makers.withBoard("8"), 0, 7, Check.NO_INDEX,
                (y, v) -> y.after(v, 9));
        Bounds.range("square of the greatest board", () -> Makers.withBoard("40"), 0, 39,
                Check.NO_INDEX, (y, v) -> y.after(v, 9));
        Doc.says(23, "`face`: 1 to 9");
        Bounds.range("face", BoundaryOutlook::played, 1, 9, Check.BAD_ARGUMENT,
                (y, v) -> y.after(11, v));
        Bounds.takes("a face that is on no die", BoundaryOutlook::played, 9, y -> y.after(0, 9));
        Doc.says(23, "Returns the square on which one is then.");
        Bounds.takes("the goal", BoundaryOutlook::played, 12, y -> y.after(11, 1));
        Bounds.takes("0", () -> Makers.withBoard("8:1>0"), 0, y -> y.after(0, 1));
        Bounds.takes("the same square", BoundaryOutlook::played, 11, y -> y.after(11, 2));
        Doc.says(23, "Throws `IndexOutOfBoundsException` if there is no such square, or it is the goal");
        for (int face : new int[] {0, 1, 9, 10}) {
            for (int square : new int[] {-1, 12, 13}) {
                Bounds.refuses("after(" + square + ", " + face + ")", BoundaryOutlook::played,
                        Check.NO_INDEX, y -> y.after(square, face));
            }
        }
        Doc.says(23, "Throws `IllegalArgumentException` if face is out of range");
        for (int face : new int[] {-1, 0, 10}) {
            Bounds.refuses("face " + face, BoundaryOutlook::played, Check.BAD_ARGUMENT,
                    y -> y.after(0, face));
        }
    }

    // ---- mean

    private static void promise24() {
        Doc.says(24, "Returns a mean.");
        LadderMakers x = ones("8:7>0");
        int[] means = {8, 8, 8, 8, 8, 8, 8, 1, 0};
        for (int square = 0; square <= 8; square++) {
            fraction("mean from " + square, x.mean(square, 0), x.mean(square, 1), means[square], 1);
        }
        Doc.says(24, "`square`: a square");
        Bounds.range("square", BoundaryOutlook::played, 0, 12, Check.NO_INDEX,
                (y, v) -> y.mean(v, 0));
        Bounds.range("square of the least board", () -> Makers.withBoard("8"), 0, 8, Check.NO_INDEX,
                (y, v) -> y.mean(v, 1));
        Bounds.range("square of the greatest board", () -> Makers.withBoard("40"), 0, 40,
                Check.NO_INDEX, (y, v) -> y.mean(v, 1));
        Doc.says(24, "`part`: 0: the numerator of the mean from this square; 1: its denominator");
        // From 7 one of six faces wins: (6^8 - 5^8) / 6^7, the most rolls that there can be.
        LadderMakers dice = Makers.withBoard("8");
        dice.set(1, 8);
        fraction("mean from 7", dice.mean(7, 0), dice.mean(7, 1), 1679616 - 390625, 279936);
        Doc.says(24, "Returns the number.");
        fraction("mean from the goal", x.mean(8, 0), x.mean(8, 1), 0, 1);
        LadderMakers one = ones("8");
        one.set(1, 1);
        fraction("the least mean", one.mean(0, 0), one.mean(0, 1), 1, 1);
        Doc.says(24, "Throws `IndexOutOfBoundsException` if there is no such square");
        for (int part = -1; part <= 2; part++) {
            int p = part;
            Bounds.refuses("square -1", BoundaryOutlook::played, Check.NO_INDEX, y -> y.mean(-1, p));
            Bounds.refuses("square 13", BoundaryOutlook::played, Check.NO_INDEX, y -> y.mean(13, p));
        }
        Doc.says(24, "Throws `IllegalArgumentException` if part is not 0 or 1");
        Bounds.range("part", BoundaryOutlook::played, 0, 1, Check.BAD_ARGUMENT,
                (y, v) -> y.mean(12, v));
    }

    // ---- chance

    private static void promise25() {
        Doc.says(25, "Returns a chance.");
        LadderMakers x = ones("8");
        for (int square = 0; square <= 8; square++) {
            for (int turns = 0; turns <= 8; turns++) {
                fraction("chance from " + square + " within " + turns, x.chance(square, turns, 0),
                        x.chance(square, turns, 1), square + turns >= 8 ? 1 : 0, 1);
            }
        }
        Doc.says(25, "`square`: a square");
        Bounds.range("square", BoundaryOutlook::played, 0, 12, Check.NO_INDEX,
                (y, v) -> y.chance(v, 8, 0));
        Bounds.range("square of the greatest board", () -> Makers.withBoard("40"), 0, 40,
                Check.NO_INDEX, (y, v) -> y.chance(v, 0, 0));
        Doc.says(25, "`turns`: 0 to 8");
        Bounds.range("turns", BoundaryOutlook::played, 0, 8, Check.BAD_ARGUMENT,
                (y, v) -> y.chance(0, v, 0));
        Doc.says(25, "Throws `IndexOutOfBoundsException` if there is no such square");
        for (int turns : new int[] {-1, 0, 8, 9}) {
            Bounds.refuses("square -1", BoundaryOutlook::played, Check.NO_INDEX,
                    y -> y.chance(-1, turns, 0));
            Bounds.refuses("square 13", BoundaryOutlook::played, Check.NO_INDEX,
                    y -> y.chance(13, turns, 2));
        }
        Doc.says(25, "Throws `IllegalArgumentException` if turns or part is out of range");
        Bounds.range("turns", BoundaryOutlook::played, 0, 8, Check.BAD_ARGUMENT,
                (y, v) -> y.chance(12, v, 1));
        Bounds.range("part", BoundaryOutlook::played, 0, 1, Check.BAD_ARGUMENT,
                (y, v) -> y.chance(12, 0, v));
    }

    private static void promise25Turns() {
        Doc.says(25,
                "`part`: 0: the numerator of the chance to be on the goal within so many turns from"
                        + " this square (with the order of dice from its beginning); 1: its"
                        + " denominator");
        // An 8 by one of six sides: what is left are the fives of all sixths.
        LadderMakers x = Makers.withBoardAndDie("8", "999998");
        long misses = 1;
        long all = 1;
        for (int turns = 0; turns <= 8; turns++) {
            fraction("chance within " + turns, x.chance(0, turns, 0), x.chance(0, turns, 1),
                    all - misses, all);
            misses *= 5;
            all *= 6;
        }
        x.set(1, 1);
        fraction("the horizon does not matter", x.chance(0, 2, 0), x.chance(0, 2, 1), 11, 36);
        LadderMakers y = ones("8");
        Makers.giveDie(y, 1, "7");
        y.order(0, 1, NONE, NONE);
        fraction("1 and 7", y.chance(0, 2, 0), y.chance(0, 2, 1), 1, 1);
        fraction("1 alone", y.chance(0, 1, 0), y.chance(0, 1, 1), 0, 1);
        y.order(1, 0, NONE, NONE);
        fraction("7 from 1 in the first turn", y.chance(1, 1, 0), y.chance(1, 1, 1), 1, 1);
        fraction("not from 0", y.chance(0, 1, 0), y.chance(0, 1, 1), 0, 1);
        Doc.says(25, "Returns the number.");
        fraction("the least chance", x.chance(0, 0, 0), x.chance(0, 0, 1), 0, 1);
        fraction("the greatest chance", x.chance(8, 0, 0), x.chance(8, 0, 1), 1, 1);
    }

    // ---- shortest

    private static void promise26() {
        Doc.says(26, "Finds the shortest game from a square.");
        LadderMakers x = new LadderMakers();
        int[] turns = {4, 4, 3, 3, 3, 3, 3, 3, 2, 2, 2, 2, 2, 2, 1, 1, 1, 1, 1, 1, 0};
        for (int square = 0; square <= 20; square++) {
            Check.due("turns from " + square, x.shortest(square, NONE), turns[square]);
        }
        Doc.says(26, "`square`: a square");
        Bounds.range("square", BoundaryOutlook::played, 0, 12, Check.NO_INDEX,
                (y, v) -> y.shortest(v, NONE));
        Bounds.range("square of the greatest board", () -> Makers.withBoard("40"), 0, 40,
                Check.NO_INDEX, (y, v) -> y.shortest(v, 0));
        Doc.says(26, "Throws `IndexOutOfBoundsException` if there is no such square");
        for (int turn : new int[] {-2, NONE, 39, 40}) {
            Bounds.refuses("square -1", BoundaryOutlook::played, Check.NO_INDEX,
                    y -> y.shortest(-1, turn));
            Bounds.refuses("square 13", BoundaryOutlook::played, Check.NO_INDEX,
                    y -> y.shortest(13, turn));
        }
        Doc.says(26, "Throws `IllegalArgumentException` if turn is out of range");
        Bounds.range("turn", BoundaryOutlook::played, NONE, 39, Check.BAD_ARGUMENT,
                (y, v) -> y.shortest(12, v));
    }

    private static void isGame(LadderMakers x, int square, int... faces) {
        Check.due("turns from " + square, x.shortest(square, NONE), faces.length);
        for (int turn = 0; turn < 40; turn++) {
            Check.due("turn " + turn + " from " + square, x.shortest(square, turn),
                    turn < faces.length ? faces[turn] : NONE);
        }
    }

    private static void promise26Turns() {
        Doc.says(26,
                "`turn`: NONE: its number of turns; 0 to 39: the face of this turn in it: of all"
                        + " shortest games the one with the least face in the turn 0, of several in"
                        + " the turn 1, and so on");
        LadderMakers x = new LadderMakers();
        isGame(x, 20);
        isGame(x, 19, 1);
        isGame(x, 14, 6);
        isGame(x, 13, 1, 6);
        isGame(x, 8, 6, 6);
        isGame(x, 7, 1, 6, 6);
        isGame(x, 0, 2, 6, 6, 6);
        // The face 6 leads to 18; and then the face 2 to 15, so that the greater one comes later.
        x.link(1, 10);
        x.link(6, 18);
        isGame(x, 0, 6, 2);
        x.link(2, 15);
        isGame(x, 0, 2, 5);
        Makers.giveDie(x, 0, "665521");
        isGame(x, 0, 2, 5);
        x.set(0, 2);
        isGame(x, 18, 2);
        isGame(x, 15, 5);
    }

    private static void promise26FortyTurns() {
        Doc.says(26,
                "Returns the number; NONE if there is no game of at most 40 turns, or it has no such"
                        + " turn.");
        int[] forty = new int[40];
        java.util.Arrays.fill(forty, 1);
        isGame(ones("40"), 0, forty);
        // By a 2, and three ones of which each leads back: 2 squares in 4 turns.
        String links = ":1>0,3>2,5>4,7>6,9>8,11>10,13>12,15>14,17>16,19>18";
        LadderMakers x = Makers.withBoardAndDie("20" + links, "2");
        Makers.giveDie(x, 1, "1");
        x.order(1, 1, 1, 0);
        Check.due("a game of 40 turns", x.shortest(0, NONE), 40);
        Check.due("its first turn", x.shortest(0, 0), 1);
        Check.due("its last turn", x.shortest(0, 39), 2);
        Makers.retype(x, "21" + links);
        x.load();
        Check.due("a game of 41 turns", x.shortest(0, NONE), NONE);
        Check.due("its first turn", x.shortest(0, 0), NONE);
        Check.due("its turn 39", x.shortest(0, 39), NONE);
        Check.due("a game of 37 turns", x.shortest(2, NONE), 37);
        Check.due("its last turn", x.shortest(2, 36), 1);
        Check.due("it has no turn 37", x.shortest(2, 37), NONE);
        LadderMakers never = ones("8:7>0");
        for (int turn = NONE; turn < 40; turn++) {
            Check.due("no game", never.shortest(0, turn), NONE);
        }
        Check.due("but one from 7", never.shortest(7, NONE), 1);
        Check.due("and from the goal", never.shortest(8, NONE), 0);
        Check.due("which has no turn", never.shortest(8, 0), NONE);
    }

    // ---- ifLinked

    private static void promise27() {
        Doc.says(27,
                "Tells what the mean of the board would be with one link more (also if there are 10,"
                        + " or there is a promise).");
        LadderMakers x = ones("20");
        x.set(1, 8);
        Check.due("a link to the goal", x.ifLinked(1, 20, 0), 1);
        Check.due("a link in the last turn", x.ifLinked(8, 20, 0), 8);
        Check.due("a link in the turn before", x.ifLinked(7, 20, 0), 7);
        // By nines alone one comes to 9 and to 18, and stays there.
        LadderMakers ten = Makers.withBoardAndDie(TEN.replace("9>0", "19>0"), "9");
        fraction("mean with ten", ten.mean(0, 0), ten.mean(0, 1), 6, 1);
        fraction("with an eleventh to the goal", ten.ifLinked(9, 20, 0), ten.ifLinked(9, 20, 1), 1,
                1);
        fraction("with an eleventh before it", ten.ifLinked(9, 11, 0), ten.ifLinked(9, 11, 1), 2,
                1);
        Check.due("there are still ten", ten.count(1), 10);
        LadderMakers kept = kept("8", 0);
        fraction("against a promise", kept.ifLinked(1, 8, 0), kept.ifLinked(1, 8, 1), 1, 1);
        Check.due("which stays", kept.count(8), 8000);
    }

    private static void promise27LinkNow() {
        Doc.says(27,
                "`part`: 0: its numerator; 1: its denominator; 2: 1 if link() would throw no exception"
                        + " now, otherwise 0");
        Bounds.takes("a tenth link", () -> Makers.withBoard(NINE), 1, x -> x.ifLinked(19, 20, 2));
        Bounds.takes("an eleventh link", () -> Makers.withBoard(TEN), 0, x -> x.ifLinked(19, 20, 2));
        Bounds.takes("a turn less", () -> kept("8", 1000), 1, x -> x.ifLinked(1, 2, 2));
        Bounds.takes("a thousandth too little", () -> kept("8", 999), 0, x -> x.ifLinked(1, 2, 2));
        Bounds.takes("two turns less", () -> kept("8", 1000), 0, x -> x.ifLinked(1, 3, 2));
        Bounds.takes("the same mean", () -> kept("8", 0), 1, x -> x.ifLinked(7, 0, 2));
        Bounds.takes("no promise", () -> ones("8"), 1, x -> x.ifLinked(1, 8, 2));
        Bounds.takes("an eleventh link and a promise", () -> kept(TEN, 5000), 0,
                x -> x.ifLinked(19, 20, 2));
        LadderMakers x = kept("8", 1000);
        for (int from = 1; from < 8; from++) {
            for (int to = 0; to <= 8; to++) {
                if (to != from) {
                    long would = x.ifLinked(from, to, 2);
                    Check.due("link(" + from + ", " + to + ")", would, isLinked(from, to));
                }
            }
        }
        Doc.says(27, "Returns the number.");
        LadderMakers y = Makers.withBoardAndDie("8", "48");
        y.set(1, 3);
        fraction("7/4", y.ifLinked(1, 2, 0), y.ifLinked(1, 2, 1), 7, 4);
        fraction("1", y.ifLinked(4, 8, 0), y.ifLinked(4, 8, 1), 1, 1);
        Check.due("nothing is saved", y.count(9), 3);
        Check.due("no link is made", y.count(1), 0);
    }

    private static int isLinked(int from, int to) {
        try {
            kept("8", 1000).link(from, to);
            return 1;
        } catch (IllegalStateException refused) {
            return 0;
        }
    }

    private static void promise27Refused() {
        Bounds.Maker twelve = () -> kept("12:3>8", 0);
        Doc.says(27, "`from`: a square");
        for (int from : new int[] {1, 11}) {
            Bounds.takes("from " + from, twelve, 1, x -> x.ifLinked(from, 4, 1));
        }
        for (int from : new int[] {0, 12}) {
            Bounds.refuses("a square, but no beginning: " + from, twelve, Check.BAD_ARGUMENT,
                    x -> x.ifLinked(from, 4, 0));
        }
        for (int from : new int[] {-1, 13, Integer.MIN_VALUE, Integer.MAX_VALUE}) {
            Bounds.refuses("from " + from, twelve, Check.NO_INDEX, x -> x.ifLinked(from, 4, 0));
        }
        Doc.says(27, "`to`: a square");
        Bounds.range("to", twelve, 0, 12, Check.NO_INDEX, (x, v) -> x.ifLinked(5, v, 0));
        Doc.says(27, "Throws `IndexOutOfBoundsException` if there is no such square");
        int[][] outside = {{-1, 5}, {13, 5}, {5, -1}, {5, 13}, {13, 13}, {-1, -1}, {0, 13}, {3, 13}};
        int[][] notAllowed = {{0, 5}, {12, 5}, {3, 5}, {8, 5}, {5, 3}, {5, 5}, {0, 0}, {12, 12},
            {3, 8}, {8, 3}};
        for (int part = -1; part <= 3; part++) {
            int p = part;
            for (int[] link : outside) {
                Bounds.refuses(link[0] + ">" + link[1], twelve, Check.NO_INDEX,
                        x -> x.ifLinked(link[0], link[1], p));
            }
        }
        Doc.says(27,
                "Throws `IllegalArgumentException` if the link is not allowed, both squares are the"
                        + " same, or part is not 0 to 2");
        for (int part = -1; part <= 3; part++) {
            int p = part;
            for (int[] link : notAllowed) {
                Bounds.refuses(link[0] + ">" + link[1], twelve, Check.BAD_ARGUMENT,
                        x -> x.ifLinked(link[0], link[1], p));
            }
        }
        Bounds.range("part", twelve, 0, 2, Check.BAD_ARGUMENT, (x, v) -> x.ifLinked(5, 8, v));
        Bounds.range("part with ten links", () -> Makers.withBoard(TEN), 0, 2, Check.BAD_ARGUMENT,
                (x, v) -> x.ifLinked(19, 20, v));
    }

    // ---- bestLink

    private static void best(LadderMakers x, int thousandths, int from, int to) {
        Check.answers("bestLink(" + thousandths + ", 0)", from, () -> x.bestLink(thousandths, 0));
        Check.answers("bestLink(" + thousandths + ", 1)", to, () -> x.bestLink(thousandths, 1));
    }

    private static void promise28() {
        Doc.says(28, "Finds the best link for a mean.");
        LadderMakers x = ones("8");
        for (int turns = 1; turns <= 7; turns++) {
            best(x, 1000 * turns, 1, 9 - turns);
        }
        Doc.says(28, "`thousandths`: the mean that is wanted, times 1000, 0 to 8000");
        Bounds.range("thousandths", BoundaryOutlook::played, 0, 8000, Check.BAD_ARGUMENT,
                (y, v) -> y.bestLink(v, 0));
        best(x, 0, 1, 8);
        best(x, 1, 1, 8);
        best(x, 7999, 1, 0);
        best(x, 8000, 1, 0);
        Doc.says(28, "Throws `IllegalArgumentException` if thousandths or what is out of range");
        for (int thousandths : new int[] {-1, 8001}) {
            for (int what = -1; what <= 2; what++) {
                int w = what;
                Bounds.refuses("bestLink(" + thousandths + ", " + what + ")",
                        BoundaryOutlook::played, Check.BAD_ARGUMENT,
                        y -> y.bestLink(thousandths, w));
                Bounds.refuses("bestLink(" + thousandths + ", " + what + ") with ten links",
                        () -> Makers.withBoard(TEN), Check.BAD_ARGUMENT,
                        y -> y.bestLink(thousandths, w));
            }
        }
        Bounds.range("what", BoundaryOutlook::played, 0, 1, Check.BAD_ARGUMENT,
                (y, v) -> y.bestLink(8000, v));
        Bounds.range("what with ten links", () -> Makers.withBoard(TEN), 0, 1, Check.BAD_ARGUMENT,
                (y, v) -> y.bestLink(8000, v));
    }

    private static void promise28Nearest() {
        Doc.says(28,
                "`what`: 0: the square at which it begins; 1: the square at which it ends: of all"
                        + " links that are allowed the one with which the mean of the board would be"
                        + " nearest to the wanted one, of several the one that begins at the least"
                        + " square, of several the one that ends at the least one");
        // The link 1>n makes 9 - n turns, 1>0 all 8; so half a turn is as near to both.
        LadderMakers x = ones("8");
        int[][] nearest = {{1499, 1, 8}, {1500, 1, 7}, {1501, 1, 7}, {2499, 1, 7}, {2500, 1, 6},
            {2501, 1, 6}, {6499, 1, 3}, {6500, 1, 2}, {6501, 1, 2}, {7499, 1, 2}, {7500, 1, 0},
            {7501, 1, 0}};
        for (int[] n : nearest) {
            best(x, n[0], n[1], n[2]);
        }
        // With 1>5 one comes to 6, 7 and the goal, in 4 turns; from 2, 3 and 4 nobody comes.
        LadderMakers z = ones("8:1>5");
        best(z, 4000, 2, 0);
        best(z, 8000, 6, 0);
        best(z, 3000, 6, 7);
        best(z, 2000, 6, 8);
        best(z, 2500, 6, 7);
        best(z, 2499, 6, 8);
        best(z, 0, 6, 8);
        best(z, 6000, 2, 0);
        best(z, 6001, 6, 0);
        best(z, 5999, 2, 0);
    }

    private static void promise28Extremes() {
        // Of the first squares none begins a link; to 8 one comes in the last turn, too late.
        LadderMakers last = ones("20:10>1,11>2,12>3,13>4,14>5,15>6");
        best(last, 0, 7, 20);
        best(last, 7000, 7, 20);
        best(last, 7499, 7, 20);
        best(last, 7500, 7, 0);
        LadderMakers greatest = ones("40");
        best(greatest, 0, 1, 40);
        best(greatest, 1000, 1, 40);
        best(greatest, 7000, 1, 34);
        best(greatest, 8000, 1, 0);
        // The means with 5>9 and with 1>8 or 1>7 are as far from 3, on either side.
        LadderMakers more = tied(4, 0);
        isTied(more, 5, 1, 8);
        best(more, 2999, 5, 9);
        best(more, 3000, 1, 8);
        best(more, 3001, 1, 8);
        LadderMakers less = tied(6, 2);
        isTied(less, 5, 1, 7);
        best(less, 2999, 1, 7);
        best(less, 3000, 1, 7);
        best(less, 3001, 5, 9);
        for (String board : new String[] {"8", "8:1>2,4>3", NINE, "40", "40:39>0,1>40,20>10"}) {
            bestOfAll(board, "1", "9", "5");
            bestOfAll(board, "123456", "999999", "12");
            bestOfAll(board, "48", "1", "123456");
        }
    }

    private static LadderMakers tied(int horizon, int rule) {
        LadderMakers x = Makers.withBoardAndDie("9", "14");
        x.set(1, horizon);
        x.set(0, rule);
        return x;
    }

    private static void isTied(LadderMakers x, int toGoal, int from, int to) {
        double apart = x.ifLinked(toGoal, 9, 0) / (double) x.ifLinked(toGoal, 9, 1) - 3;
        double other = x.ifLinked(from, to, 0) / (double) x.ifLinked(from, to, 1) - 3;
        Check.isTrue("as far from 3, " + apart + " and " + other, apart == -other && apart != 0);
    }

    /** The shortest order and the longest, the least horizon and the greatest, on this board. */
    private static void bestOfAll(String board, String first, String second, String third) {
        int[][] orders = {{0, NONE, NONE, NONE}, {0, 1, 2, 0}, {2, 1, 0, 0}};
        for (int[] order : orders) {
            for (int horizon : new int[] {1, 2, 8}) {
                LadderMakers x = Makers.withBoardAndDie(board, first);
                Makers.giveDie(x, 1, second);
                Makers.giveDie(x, 2, third);
                x.order(order[0], order[1], order[2], order[3]);
                x.set(1, horizon);
                x.set(0, order[1] + 1);
                int wanted = order[0] == 2 ? 4321 : horizon * 700;
                int[] due = OutlookTests.bestOfAll(x, wanted);
                best(x, wanted, due[0], due[1]);
            }
        }
    }

    private static void promise28None() {
        Doc.says(28,
                "Returns the number; NONE if no link is allowed, or there are 10 (a promise does not"
                        + " matter).");
        LadderMakers last = Makers.withBoard("8:1>2,3>4,5>6");
        best(last, 0, 7, 8);
        last.link(7, 8);
        best(last, 0, NONE, NONE);
        last.undo();
        best(last, 0, 7, 8);
        best(Makers.withBoard("8:1>2,3>4,5>6,7>8"), 0, NONE, NONE);
        best(Makers.withBoard("8:1>2,3>4,5>6,7>8"), 8000, NONE, NONE);
        best(Makers.withBoard(TEN), 3000, NONE, NONE);
        LadderMakers x = Makers.withBoard(NINE);
        best(x, 0, 10, 0);
        x.link(19, 0);
        best(x, 0, NONE, NONE);
        x.unlink(9);
        best(x, 0, 10, 0);
        LadderMakers kept = kept("8", 0);
        best(kept, 1000, 1, 8);
        best(kept, 8000, 1, 0);
        Check.due("the promise stays", kept.count(8), 8000);
        Check.due("no link is made", kept.count(1), 0);
    }

    // ---- bestSide

    /** The player 0 is on 2, and rolls the die 1 next; then the die 2 would follow. */
    private static LadderMakers onTwo(String faces) {
        LadderMakers x = Makers.withBoardAndDie("8", "2");
        Makers.giveDie(x, 1, faces);
        Makers.giveDie(x, 2, "1");
        x.order(0, 1, 2, NONE);
        x.addPlayer();
        x.roll(0, 0);
        return x;
    }

    private static void promise29() {
        Doc.says(29, "Finds the best side for a player.");
        Bounds.takes("the goal", () -> onTwo("1256"), 3, x -> x.bestSide(0));
        Bounds.takes("one side", () -> onTwo("1"), 0, x -> x.bestSide(0));
        Doc.says(29, "`player`: the number of the player");
        Bounds.range("of one", () -> onTwo("1"), 0, 0, Check.NO_INDEX, (x, v) -> x.bestSide(v));
        Bounds.range("of four", () -> {
            LadderMakers x = new LadderMakers();
            while (x.count(4) < 4) {
                x.addPlayer();
            }
            return x;
        }, 0, 3, Check.NO_INDEX, (x, v) -> x.bestSide(v));
        Doc.says(29,
                "Returns the side of the die of the player's next turn by which the mean (as told by"
                        + " mean()) from the square on which the player would be then is least, of"
                        + " several the lowest one; NONE if the player is on the goal.");
        // From 6 the order wins at its beginning by a 2; from 7 only the die 2 does, by its 1.
        Bounds.takes("6 before 7", () -> onTwo("45"), 0, x -> x.bestSide(0));
        Bounds.takes("6 behind 7", () -> onTwo("54"), 1, x -> x.bestSide(0));
        Bounds.takes("the first one of all", () -> onTwo("444444"), 0, x -> x.bestSide(0));
        Bounds.takes("the first one of the last two", () -> onTwo("555544"), 4, x -> x.bestSide(0));
        Bounds.takes("the last one", () -> onTwo("555554"), 5, x -> x.bestSide(0));
        Bounds.takes("beyond the goal one stays on 2", () -> onTwo("75"), 1, x -> x.bestSide(0));
        Bounds.takes("by both sides", () -> onTwo("78"), 0, x -> x.bestSide(0));
        LadderMakers won = onTwo("6");
        won.addPlayer();
        won.roll(0, 0);
        Check.due("on the goal", won.bestSide(0), NONE);
        Check.due("another one is on it", won.bestSide(1), 0);
        won.undo();
        Check.due("before it", won.bestSide(0), 0);
        Doc.says(29, "Throws `IndexOutOfBoundsException` if there is no such player");
        Bounds.refuses("no players", LadderMakers::new, Check.NO_INDEX, x -> x.bestSide(0));
        Bounds.refuses("player 1 of 1", () -> onTwo("6"), Check.NO_INDEX, x -> x.bestSide(1));
    }

    // ---- meanLength and digest

    private static void promise30() {
        Doc.says(30, "Returns the mean of the board.");
        LadderMakers x = ones("8");
        for (int horizon = 1; horizon <= 8; horizon++) {
            x.set(1, horizon);
            Check.isTrue("the mean by " + horizon, x.meanLength() == horizon);
        }
        Doc.says(30,
                "Returns the numerator of the mean of the board, as a double, divided by its"
                        + " denominator.");
        LadderMakers y = new LadderMakers();
        for (int horizon = 1; horizon <= 8; horizon++) {
            y.set(1, horizon);
            Check.isTrue("the quotient by " + horizon,
                    y.meanLength() == (double) y.mean(0, 0) / (double) y.mean(0, 1));
        }
        LadderMakers thirds = Makers.withBoardAndDie("8", "448");
        thirds.set(1, 2);
        Check.isTrue("5/3", thirds.meanLength() == 5.0 / 3.0);
    }

    private static void digest(String what, LadderMakers x, String buffer) {
        Check.due("digest of " + what, x.digest(), OutlookTests.digestOf(x, buffer));
    }

    private static void promise31() {
        Doc.says(31, "Computes a hash of the whole state.");
        Bounds.Use[] changes = {x -> x.append('1'), x -> x.link(5, 6), x -> x.unlink(0),
            x -> x.shift(0, 2), x -> x.set(0, 1), x -> x.set(1, 7), x -> x.set(2, 99),
            LadderMakers::promise, LadderMakers::addPlayer, x -> x.roll(0, 0),
            x -> x.order(0, 0, NONE, NONE), LadderMakers::load, LadderMakers::clearBuffer,
            LadderMakers::undo};
        long before = played().digest();
        for (int i = 0; i < changes.length; i++) {
            LadderMakers x = played();
            changes[i].on(x);
            Check.isTrue("the hash is another one behind change " + i, x.digest() != before);
        }
        Check.due("the hash of the same state", played().digest(), before);
        for (int i = 0; i < changes.length; i++) {
            LadderMakers told = played();
            tellAll(told);
            changes[i].on(told);
            LadderMakers untold = played();
            changes[i].on(untold);
            Check.due("the hash behind change " + i + " of what was told", told.digest(),
                    untold.digest());
            Check.due("what is told behind change " + i, tellAll(told), tellAll(untold));
        }
        LadderMakers smaller = Makers.withBoard("40:8>30");
        tellAll(smaller);
        Makers.type(smaller, "8");
        smaller.load();
        Check.due("what is told of a smaller board", tellAll(smaller),
                tellAll(Makers.withBoard("8")));
        Doc.says(31, "The hash starts at 2383.");
        digest("a new object", new LadderMakers(), "");
        Doc.says(31,
                "For each value v of the following list, in order, the hash becomes 31 * hash + v, in"
                        + " long arithmetic with overflow.");
        digest("a board on which one plays", played(), "8:1>2");
        Doc.says(31, "Returns the hash.");
        LadderMakers x = played();
        Check.due("again", x.digest(), x.digest());
    }

    /** What is told of 0 and of the goal, and the best link for the last digest's 3000. */
    private static long tellAll(LadderMakers x) {
        long hash = 7;
        for (int square : new int[] {0, x.count(0)}) {
            hash = 31 * hash + x.mean(square, 0);
            hash = 31 * hash + x.shortest(square, NONE);
            hash = 31 * hash + x.chance(square, 8, 0);
            hash = 31 * hash + x.chance(square, 0, 0);
        }
        hash = 31 * hash + x.bestLink(8000, 0);
        hash = 31 * hash + x.bestLink(3000, 1);
        return 31 * hash + x.bestLink(3000, 0);
    }

    private static void promise31Edges() {
        Doc.says(31,
                "The values are: count(0) to count(13); the settings 0 to 2; for each square its"
                        + " properties 0 to 3, mean with 0 and 1, and shortest with NONE; for each"
                        + " link its properties 0 to 2; for each die the faces of the sides 0 to 5;"
                        + " for each player the properties 0 to 4, and bestSide; chance for the"
                        + " square 0 with 3 turns, with 0 and 1; shortest for the square 0 with the"
                        + " turns 0 to 7; bestLink for 3000 with 0 and 1; the bits of meanLength (as"
                        + " Double.doubleToLongBits); the length of the buffer and each of its"
                        + " character codes.");
        digest("the least board", Makers.withBoard("8"), "");
        digest("the greatest board", Makers.withBoard("40"), "");
        digest("ten links", Makers.withBoard(TEN), "");
        digest("no link that is allowed", Makers.withBoard("8:1>2,3>4,5>6,7>8"), "");
        LadderMakers full = new LadderMakers();
        String buffer = "!~".repeat(30);
        Makers.type(full, buffer);
        digest("a full buffer", full, buffer);
        LadderMakers players = Makers.withBoardAndDie("8", "48");
        for (int player = 0; player < 4; player++) {
            players.addPlayer();
            digest("one player more", players, "");
        }
        players.roll(3, 1);
        digest("a player on the goal", players, "");
        players.promise();
        digest("a promise", players, "");
        LadderMakers order = ones("40");
        order.order(0, 1, 2, 1);
        digest("four dice", order, "");
        order.set(0, 2);
        order.set(2, 0);
        digest("the settings' ends", order, "");
        digest("a best link for 3000 with the more of two", tied(4, 0), "");
        digest("a best link for 3000 with the less of two", tied(6, 2), "");
        // The bits of each power of 2, and of what lies between them.
        for (int horizon = 1; horizon <= 8; horizon++) {
            LadderMakers x = ones("8");
            x.set(1, horizon);
            digest("the mean " + horizon, x, "");
            LadderMakers y = Makers.withBoard("12:3>8");
            y.set(1, horizon);
            digest("a mean by " + horizon, y, "");
        }
    }
}
