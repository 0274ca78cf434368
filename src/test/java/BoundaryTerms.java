/** The boundary cases that the document names under "What it is" and "Terms". */
final class BoundaryTerms {
    private static final int NONE = LadderMakers.NONE;
    private static final String TEN = "20:1>0,2>0,3>0,4>0,5>0,6>0,7>0,8>0,9>0,10>0";
    private static final String NINE = "20:1>0,2>0,3>0,4>0,5>0,6>0,7>0,8>0,9>0";

    private BoundaryTerms() {
    }

    static void run() {
        calls();
        integers();
        fractions();
        boards();
        links();
        whereLinksBeginAndEnd();
        linksTakenAway();
        dice();
        sidesAndFaces();
        orderOfDice();
        movesFurther();
        movesBeyondTheGoal();
        movesByLinks();
        gameIsOver();
        lengths();
        means();
        promisedMeans();
        tolerance();
        notWhilePromised();
        settings();
        buffer();
        boardTexts();
        dieTexts();
        syntaxErrors();
        savedStates();
        sixStates();
        exceptions();
    }

    private static LadderMakers typed(String text) {
        LadderMakers x = new LadderMakers();
        Makers.type(x, text);
        return x;
    }

    private static LadderMakers promised(String board, String faces, int horizon, int tolerance) {
        LadderMakers x = Makers.withBoardAndDie(board, faces);
        x.set(1, horizon);
        x.set(2, tolerance);
        x.promise();
        return x;
    }

    private static void fraction(String what, long numerator, long denominator, long dueNumerator,
            long dueDenominator) {
        Check.due("numerator of " + what, numerator, dueNumerator);
        Check.due("denominator of " + what, denominator, dueDenominator);
    }

    // ---- What it is, and terms

    private static void calls() {
        Doc.says("What it is",
                "An object is used for at most 512 calls after it has been made; what later calls"
                        + " answer is free.");
        LadderMakers x = typed("8:1>0");
        x.load();
        x.append('1');
        x.die(0);
        x.addPlayer();
        for (int call = 10; call <= 510; call++) {
            Check.due("call " + call, x.roll(0, 0), 0);
        }
        Check.due("call 511", x.player(0, 1), 501);
        Check.due("call 512", x.undo(), 5);
    }

    private static void integers() {
        Doc.says("Terms", "All numbers are integers.");
        LadderMakers x = Makers.withBoardAndDie("8", "448");
        x.set(1, 2);
        Check.due("5/3 times 1000", x.promise(), 1666);
    }

    private static void fractions() {
        Doc.says("Terms",
                "Fractions are told in lowest terms, the denominator above 0 (0 is 0 by 1).");
        LadderMakers x = Makers.withBoardAndDie("8", "48");
        x.set(1, 2);
        fraction("mean of 6 by 4", x.mean(0, 0), x.mean(0, 1), 3, 2);
        fraction("mean of 8 by 4", x.mean(5, 0), x.mean(5, 1), 2, 1);
        fraction("mean of 0", x.mean(8, 0), x.mean(8, 1), 0, 1);
        fraction("chance of 0 by 1", x.chance(0, 0, 0), x.chance(0, 0, 1), 0, 1);
        fraction("chance of 0 by 256", x.chance(5, 8, 0), x.chance(5, 8, 1), 0, 1);
        fraction("chance of 256 by 256", x.chance(8, 8, 0), x.chance(8, 8, 1), 1, 1);
        fraction("mean of 4 by 4 with a link", x.ifLinked(4, 8, 0), x.ifLinked(4, 8, 1), 1, 1);
        fraction("mean of 6 by 4 with a link", x.ifLinked(4, 0, 0), x.ifLinked(4, 0, 1), 3, 2);
        LadderMakers y = Makers.withBoard("20:3>17,12>2");
        for (int square = 0; square <= 20; square++) {
            isLowest("mean from " + square, y.mean(square, 0), y.mean(square, 1));
            isLowest("chance from " + square, y.chance(square, 5, 0), y.chance(square, 5, 1));
        }
        isLowest("mean with a link", y.ifLinked(5, 11, 0), y.ifLinked(5, 11, 1));
    }

    private static void isLowest(String what, long numerator, long denominator) {
        long divisor = java.math.BigInteger.valueOf(numerator)
                .gcd(java.math.BigInteger.valueOf(denominator)).longValue();
        Check.due("what divides both parts of the " + what, divisor, 1);
        Check.isTrue("the denominator of the " + what + " is above 0", denominator > 0);
    }

    // ---- Boards

    private static void boards() {
        Doc.says("Boards",
                "A board has the squares 0 to its goal, which is 8 to 40, at first 20.");
        Bounds.takes("the goal at first", LadderMakers::new, 20, x -> x.count(0));
        Bounds.range("a square at first", LadderMakers::new, 0, 20, Check.NO_INDEX,
                (x, v) -> x.square(v, 0));
        Bounds.takes("goal 8", () -> typed("8"), 8, x -> x.load() + x.count(0));
        Bounds.takes("goal 40", () -> typed("40"), 40, x -> x.load() + x.count(0));
        Bounds.refuses("goal 7", () -> typed("7"), Check.BAD_ARGUMENT, LadderMakers::load);
        Bounds.refuses("goal 41", () -> typed("41"), Check.BAD_ARGUMENT, LadderMakers::load);
        Bounds.range("a square of the least board", () -> Makers.withBoard("8"), 0, 8,
                Check.NO_INDEX, (x, v) -> x.square(v, 0));
        Bounds.range("a square of the greatest board", () -> Makers.withBoard("40"), 0, 40,
                Check.NO_INDEX, (x, v) -> x.square(v, 0));
    }

    private static void links() {
        Doc.says("Boards",
                "There are at most 10 links, numbered from 0 in the order in which they came; a link"
                        + " leads from a square to another one (a ladder if that is greater, a snake"
                        + " if it is less).");
        Bounds.takes("the first link", LadderMakers::new, 0, x -> x.link(9, 4));
        Bounds.takes("the tenth link", () -> Makers.withBoard(NINE), 9, x -> x.link(10, 0));
        Bounds.refuses("an eleventh link", () -> Makers.withBoard(TEN), Check.BAD_STATE,
                x -> x.link(11, 0));
        LadderMakers x = Makers.withBoard("20:15>3,1>3,9>3");
        x.link(7, 3);
        int[] begins = {15, 1, 9, 7};
        for (int link = 0; link < 4; link++) {
            Check.due("the link " + link + " begins at", x.linkOf(link, 0), begins[link]);
        }
        Bounds.takes("one square further is a ladder", () -> Makers.withBoard("20:5>6"), 10,
                y -> 10 * y.count(2) + y.count(3));
        Bounds.takes("one square back is a snake", () -> Makers.withBoard("20:6>5"), 1,
                y -> 10 * y.count(2) + y.count(3));
        Bounds.refuses("to the same square", LadderMakers::new, Check.BAD_ARGUMENT,
                y -> y.link(5, 5));
    }

    private static void whereLinksBeginAndEnd() {
        Doc.says("Boards",
                "A link begins at no square at which another link begins or ends, and ends at no"
                        + " square at which another one begins; it begins neither at 0 nor at the"
                        + " goal.");
        int[][] allowed = {{1, 0}, {1, 20}, {19, 0}, {19, 20}, {5, 1}, {7, 1}, {11, 1}, {13, 1},
            {1, 5}, {1, 7}, {1, 11}, {1, 12}, {1, 13}, {19, 12}, {7, 5}};
        int[][] refused = {{0, 1}, {20, 1}, {0, 20}, {20, 0}, {6, 1}, {6, 12}, {12, 1}, {12, 6},
            {1, 6}, {19, 6}, {0, 6}, {20, 12}};
        for (int[] link : allowed) {
            isAllowed(link[0], link[1]);
        }
        for (int[] link : refused) {
            isNotAllowed(link[0], link[1]);
        }
    }

    /** A second link beside 6>12, by each of the calls that can make one or tell of it. */
    private static void isAllowed(int from, int to) {
        String link = from + ">" + to;
        Bounds.Maker one = () -> Makers.withBoard("20:6>12");
        Bounds.takes("link " + link, one, 1, x -> x.link(from, to));
        Bounds.takes("ifLinked " + link, one, 1, x -> x.ifLinked(from, to, 2));
        Bounds.takes("square " + from, one, 1, x -> x.square(from, 3));
        Bounds.takes("load " + link, () -> typed("20:6>12," + link), 2, LadderMakers::load);
        Bounds.takes("shift to " + link, () -> Makers.withBoard("20:6>12,17>" + to), 17,
                x -> x.shift(1, from));
    }

    private static void isNotAllowed(int from, int to) {
        String link = from + ">" + to;
        Bounds.Maker one = () -> Makers.withBoard("20:6>12");
        Bounds.refuses("link " + link, one, Check.BAD_ARGUMENT, x -> x.link(from, to));
        for (int part = 0; part <= 2; part++) {
            int p = part;
            Bounds.refuses("ifLinked " + link, one, Check.BAD_ARGUMENT,
                    x -> x.ifLinked(from, to, p));
        }
        Bounds.refuses("load " + link, () -> typed("20:6>12," + link), Check.BAD_STATE,
                LadderMakers::load);
        if (to != 6) {
            Bounds.refuses("shift to " + link, () -> Makers.withBoard("20:6>12,17>" + to),
                    Check.BAD_ARGUMENT, x -> x.shift(1, from));
        }
    }

    private static void linksTakenAway() {
        Doc.says("Boards", "(Several links can end at the same square.)");
        for (int end : new int[] {0, 15, 20}) {
            LadderMakers x = new LadderMakers();
            for (int from = 1; from <= 10; from++) {
                Check.answers("a link more to " + end, from - 1, linking(x, from, end));
                Check.due("links that end there", x.square(end, 1), from);
            }
        }
        Doc.says("Boards",
                "If a link is taken away, those behind it have numbers that are less by 1.");
        int[][] left = {{4, 5}, {3, 5}, {3, 4}};
        for (int link = 0; link < 3; link++) {
            LadderMakers x = Makers.withBoard("20:3>13,4>14,5>15");
            x.unlink(link);
            for (int number = 0; number < 2; number++) {
                Check.due("link " + number + " without " + link, x.linkOf(number, 0),
                        left[link][number]);
                Check.due("end of it", x.linkOf(number, 1), left[link][number] + 10);
            }
            Check.fails("there is no link 2 then", Check.NO_INDEX, () -> x.linkOf(2, 0));
        }
        LadderMakers ten = Makers.withBoard(TEN);
        ten.unlink(0);
        Check.due("the last one of ten", ten.linkOf(8, 0), 10);
        Check.fails("there is no link 9 then", Check.NO_INDEX, () -> ten.linkOf(9, 0));
    }

    private static Check.Call linking(LadderMakers x, int from, int to) {
        return () -> x.link(from, to);
    }

    // ---- Dice

    private static void dice() {
        Doc.says("Dice", "There are three dice, numbered 0 to 2.");
        Bounds.range("face of a die", LadderMakers::new, 0, 2, Check.NO_INDEX,
                (x, v) -> x.face(v, 0));
        Bounds.range("new faces of a die", () -> typed("1"), 0, 2, Check.NO_INDEX,
                (x, v) -> x.die(v));
        Bounds.range("order of a die", LadderMakers::new, 0, 2, Check.BAD_ARGUMENT,
                (x, v) -> x.order(v, NONE, NONE, NONE));
        Doc.says("Dice", "At first each die has the sides 1 to 6, in this order.");
        for (int die = 0; die < 3; die++) {
            int d = die;
            for (int side = 0; side < 6; side++) {
                int s = side;
                Bounds.takes("face of side " + s, LadderMakers::new, s + 1, x -> x.face(d, s));
            }
        }
    }

    private static void sidesAndFaces() {
        Doc.says("Dice",
                "A die has 1 to 6 sides with a face on each of them, 1 to 9; each side is as likely"
                        + " as any other one.");
        Bounds.takes("one side", () -> typed("5"), 1, x -> x.die(0));
        Bounds.takes("six sides", () -> typed("555555"), 6, x -> x.die(0));
        Bounds.refuses("no side", LadderMakers::new, Check.BAD_ARGUMENT, x -> x.die(0));
        Bounds.refuses("seven sides", () -> typed("5555555"), Check.BAD_ARGUMENT, x -> x.die(0));
        Bounds.takes("face 1", () -> typed("1"), 1, x -> x.die(0) * x.face(0, 0));
        Bounds.takes("face 9", () -> typed("9"), 9, x -> x.die(0) * x.face(0, 0));
        Bounds.refuses("face 0", () -> typed("0"), Check.BAD_ARGUMENT, x -> x.die(0));
        Bounds.refuses("the character behind 9", () -> typed(":"), Check.BAD_ARGUMENT,
                x -> x.die(0));
        Bounds.refuses("the character before 0", () -> typed("/"), Check.BAD_ARGUMENT,
                x -> x.die(0));
        String[] faces = {"1", "8", "18", "188", "818", "111118", "888881", "888888"};
        int[] wins = {0, 1, 1, 2, 2, 1, 5, 1};
        int[] of = {1, 1, 2, 3, 3, 6, 6, 1};
        for (int i = 0; i < faces.length; i++) {
            LadderMakers x = Makers.withBoardAndDie("8", faces[i]);
            fraction("chance of an 8 of " + faces[i], x.chance(0, 1, 0), x.chance(0, 1, 1), wins[i],
                    of[i]);
        }
    }

    private static void orderOfDice() {
        Doc.says("Dice",
                "The order of dice is a row of 1 to 4 numbers of dice, at first just 0; the turns of"
                        + " a game, numbered from 0, are rolled with the dice of this order, one"
                        + " after the other, and again from its beginning.");
        Bounds.takes("dice of the order at first", LadderMakers::new, 1, x -> x.count(6));
        Bounds.takes("the die at first", LadderMakers::new, 0, x -> x.count(10));
        Bounds.takes("no second die at first", LadderMakers::new, NONE, x -> x.count(11));
        Bounds.refuses("no die", LadderMakers::new, Check.BAD_ARGUMENT,
                x -> x.order(NONE, NONE, NONE, NONE));
        int[][] orders = {{1, NONE, NONE, NONE}, {1, 2, NONE, NONE}, {1, 2, 0, NONE}, {1, 2, 0, 2}};
        for (int length = 1; length <= 4; length++) {
            int[] order = orders[length - 1];
            LadderMakers x = Makers.withBoardAndDie("40", "1");
            Makers.giveDie(x, 1, "2");
            Makers.giveDie(x, 2, "3");
            Check.answers("order of " + length, length,
                    () -> x.order(order[0], order[1], order[2], order[3]));
            turnsByOrder(x, order, length);
        }
        LadderMakers y = Makers.withBoardAndDie("16", "1");
        Makers.giveDie(y, 1, "2");
        Makers.giveDie(y, 2, "3");
        y.order(0, 1, 2, 1);
        fraction("chance within two rounds", y.chance(0, 8, 0), y.chance(0, 8, 1), 1, 1);
        fraction("chance within a turn less", y.chance(0, 7, 0), y.chance(0, 7, 1), 0, 1);
        y.set(1, 8);
        fraction("mean from 2, 14 squares", y.mean(2, 0), y.mean(2, 1), 7, 1);
    }

    private static void turnsByOrder(LadderMakers x, int[] order, int length) {
        x.addPlayer();
        int square = 0;
        for (int turn = 0; turn < 9; turn++) {
            int die = order[turn % length];
            Check.due("die of the turn " + turn + " of a player", x.player(0, 3), die);
            Check.due("face of the turn " + turn, x.shortest(0, turn), die + 1);
            square += die + 1;
            Check.due("the turn " + turn + " of a player", x.roll(0, 0), square);
        }
    }

    // ---- Moves

    private static void movesFurther() {
        Doc.says("Moves",
                "When a face is rolled on a square, the move goes to the square that is so many"
                        + " further.");
        for (int rule = 0; rule <= 2; rule++) {
            LadderMakers x = Makers.withBoard("9");
            x.set(0, rule);
            Check.due("the least face", x.after(0, 1), 1);
            Check.due("the greatest face, to the goal", x.after(0, 9), 9);
            Check.due("one square before the goal", x.after(0, 8), 8);
            Check.due("the least face, to the goal", x.after(8, 1), 9);
        }
    }

    private static void movesBeyondTheGoal() {
        Doc.says("Moves",
                "If that is beyond the goal, it depends on setting 0: 0: one stays where one is;"
                        + " 1: one goes to the goal and as many squares back as are left of the"
                        + " face; 2: one is on the goal.");
        int[][] moves = {{7, 1, 8, 8, 8}, {7, 2, 7, 7, 8}, {7, 3, 7, 6, 8}, {7, 9, 7, 0, 8},
            {0, 8, 8, 8, 8}, {0, 9, 0, 7, 8}, {4, 4, 8, 8, 8}, {4, 5, 4, 7, 8}, {4, 8, 4, 4, 8},
            {4, 9, 4, 3, 8}};
        for (int[] move : moves) {
            for (int rule = 0; rule <= 2; rule++) {
                LadderMakers x = Makers.withBoardAndDie("8", "" + move[1]);
                x.set(0, rule);
                Check.due("by rule " + rule + " from " + move[0] + " with " + move[1],
                        x.after(move[0], move[1]), move[2 + rule]);
                Check.due("won by it", x.chance(move[0], 1, 0), move[2 + rule] == 8 ? 1 : 0);
            }
        }
    }

    private static void movesByLinks() {
        Doc.says("Moves",
                "Then, if a link begins on the square to which the move goes, one is on the square"
                        + " to which the link leads.");
        LadderMakers x = Makers.withBoard("12:3>12,11>0,6>5,7>5");
        int[] squares = {1, 2, 12, 4, 5, 5, 5, 8, 9};
        for (int face = 1; face <= 9; face++) {
            Check.due("from 0 with " + face, x.after(0, face), squares[face - 1]);
        }
        Check.due("one is not moved where a link ends", x.after(4, 1), 5);
        Check.due("a link is left", x.after(3, 1), 4);
        Check.due("the goal", x.after(9, 3), 12);
        x.set(0, 1);
        Check.due("one back from the goal is a link", x.after(9, 4), 0);
        Check.due("two back is none", x.after(9, 5), 10);
        Check.due("back to the link on which one stands", x.after(11, 2), 0);
        x.set(0, 2);
        Check.due("on the goal no link begins", x.after(9, 4), 12);
        Doc.says("Moves", "(One who stays by 0 is not moved by links.)");
        LadderMakers y = Makers.withBoardAndDie("12", "92");
        y.addPlayer();
        y.roll(0, 0);
        y.roll(0, 1);
        y.link(11, 1);
        Check.due("one stays where a link begins", y.roll(0, 1), 11);
        Check.due("and is told so", y.after(11, 2), 11);
        Check.due("in no game one comes from there", y.shortest(11, NONE), NONE);
        Check.due("one who does not stay is moved", y.after(9, 2), 1);
        y.set(0, 1);
        Check.due("by 1 one is moved", y.roll(0, 1), 1);
    }

    private static void gameIsOver() {
        Doc.says("Moves", "On the goal the game is over.");
        for (int rule = 0; rule <= 2; rule++) {
            LadderMakers x = Makers.withBoardAndDie("8:1>0", "8");
            x.set(0, rule);
            int r = rule;
            fraction("mean from the goal", x.mean(8, 0), x.mean(8, 1), 0, 1);
            fraction("mean from 0", x.mean(0, 0), x.mean(0, 1), 1, 1);
            for (int turns = 0; turns <= 8; turns++) {
                fraction("chance from the goal", x.chance(8, turns, 0), x.chance(8, turns, 1), 1, 1);
                Check.due("chance from 0", x.chance(0, turns, 0), turns == 0 ? 0 : 1);
            }
            Check.due("turns from the goal", x.shortest(8, NONE), 0);
            Check.due("the game from the goal has no turn", x.shortest(8, 0), NONE);
            Check.due("the game from 0 has no turn 1", x.shortest(0, 1), NONE);
            Bounds.Maker won = () -> wonBy(r);
            Bounds.refuses("a turn on the goal", won, Check.BAD_STATE, y -> y.roll(0, 0));
            Bounds.refuses("a face on the goal", won, Check.NO_INDEX, y -> y.after(8, 1));
            Bounds.takes("no best side", won, NONE, y -> y.bestSide(0));
        }
    }

    private static LadderMakers wonBy(int rule) {
        LadderMakers x = Makers.withBoardAndDie("8:1>0", "8");
        x.set(0, rule);
        x.addPlayer();
        x.roll(0, 0);
        return x;
    }

    // ---- Means

    private static void lengths() {
        Doc.says("Means",
                "The length of a game from a square is the number of turns until one is on the goal,"
                        + " or setting 1, if one is not on it by then.");
        LadderMakers x = Makers.withBoardAndDie("8", "1");
        for (int horizon = 1; horizon <= 8; horizon++) {
            x.set(1, horizon);
            for (int square = 0; square <= 8; square++) {
                fraction("by " + horizon + " from " + square, x.mean(square, 0), x.mean(square, 1),
                        Math.min(horizon, 8 - square), 1);
            }
        }
    }

    private static void means() {
        Doc.says("Means",
                "The mean from a square is the mean of this length over all rolls of as many turns"
                        + " as setting 1 tells, rolled with the order of dice from its beginning;"
                        + " from the goal it is 0.");
        // An 8 wins with 1 of 2; from 4 the 4 does.
        LadderMakers x = Makers.withBoardAndDie("8", "48");
        long[] numerators = {1, 3, 7, 15, 31, 63, 127, 255};
        for (int horizon = 1; horizon <= 8; horizon++) {
            x.set(1, horizon);
            fraction("mean by " + horizon, x.mean(0, 0), x.mean(0, 1), numerators[horizon - 1],
                    1 << horizon - 1);
            fraction("mean from the goal", x.mean(8, 0), x.mean(8, 1), 0, 1);
        }
        // The dice win in their second turn alone, and so do those of the next round.
        Makers.giveDie(x, 1, "1");
        Makers.giveDie(x, 0, "7");
        x.order(1, 0, NONE, NONE);
        fraction("mean by the order", x.mean(0, 0), x.mean(0, 1), 2, 1);
        fraction("mean of a longer game", x.mean(6, 0), x.mean(6, 1), 3, 1);
        Doc.says("Means", "The mean of the board is the mean from the square 0.");
        LadderMakers y = Makers.withBoardAndDie("8", "1");
        y.set(1, 8);
        Check.isTrue("meanLength() is the mean from 0", y.meanLength() == 8.0);
        Check.due("promise() is the mean from 0", y.promise(), 8000);
        Check.due("ifLinked() is the mean from 0", y.ifLinked(1, 8, 0), 1);
        Check.due("ifLinked() behind the first square", y.ifLinked(2, 8, 0), 2);
    }

    private static void promisedMeans() {
        Doc.says("Means", "A promise keeps the mean of the board as it was when it was made.");
        LadderMakers x = promised("8", "1", 8, 1000);
        Check.due("promised", x.count(8), 8000);
        x.link(1, 2);
        Check.due("the same behind an edit", x.count(8), 8000);
        Check.fails("a second turn less is too far", Check.BAD_STATE, () -> x.link(3, 4));
        x.promise();
        Check.due("promised anew", x.count(8), 7000);
        Check.answers("then it is not", 1, () -> x.link(3, 4));
        // The mean itself is kept, 5/3, and not its 1666 thousandths.
        LadderMakers y = promised("8", "448448", 2, 0);
        Makers.type(y, "844");
        Check.answers("the same mean of half as many sides", 3, () -> y.die(0));
    }

    private static void tolerance() {
        Doc.says("Means",
                "While there is a promise, an edit (link(), unlink(), shift(), die()) is possible"
                        + " only if the mean of the board behind it differs from the promised one by"
                        + " at most setting 2 thousandths; load(), order() and set() are not"
                        + " possible then.");
        // 3/2 turns; without the way over 4 one turn; with fours alone 2 turns.
        edit("link() to less", "8", "48", 500, x -> x.link(4, 8));
        edit("unlink() to more", "8:4>8", "48", 500, x -> x.unlink(0));
        edit("shift() to less", "8:5>8", "48", 500, x -> x.shift(0, 4));
        edit("shift() to more", "8:4>8", "48", 500, x -> x.shift(0, 5));
        edit("die() to less", "8:4>8,1>0", "14", 500, x -> x.die(0));
        edit("die() to more", "8", "88", 1000, x -> x.die(0));
        // 5/3 turns and one turn are 666 2/3 thousandths apart, 7/6 and 2 are 833 1/3.
        edit("link() between thousandths", "8", "448", 667, x -> x.link(4, 8));
        edit("unlink() between thousandths", "8:4>8", "448", 667, x -> x.unlink(0));
        edit("die() between thousandths", "8", "488888", 834, x -> x.die(0));
        // 8 turns and 3 turns are 5 turns apart, 8 and 2 are 6.
        Bounds.takes("5 turns less", () -> promised("8", "1", 8, 5000), 0, x -> x.link(1, 6));
        Bounds.refuses("6 turns less", () -> promised("8", "1", 8, 5000), Check.BAD_STATE,
                x -> x.link(1, 7));
        leastTolerance();
    }

    /** The edit (a die gets the face 4 by it) needs so many thousandths: one less is too little. */
    private static void edit(String what, String board, String faces, int thousandths,
            Bounds.Use use) {
        Bounds.refuses(what, () -> typedFour(promised(board, faces, 2, thousandths - 1)),
                Check.BAD_STATE, use);
        Check.isTaken(what, () -> use.on(typedFour(promised(board, faces, 2, thousandths))));
    }

    private static LadderMakers typedFour(LadderMakers x) {
        Makers.type(x, "4");
        return x;
    }

    /** A link that matters in few games alone moves the mean by less than a thousandth. */
    private static void leastTolerance() {
        Bounds.Maker strict = () -> promised("40", "123456", 8, 0);
        LadderMakers x = strict.make();
        double apart = x.ifLinked(34, 33, 0) / (double) x.ifLinked(34, 33, 1) - x.meanLength();
        Check.isTrue("less than a thousandth apart", apart > 0 && apart < 0.001);
        Bounds.refuses("a little more, and no tolerance", strict, Check.BAD_STATE,
                y -> y.link(34, 33));
        Bounds.takes("a little more, and a thousandth", () -> promised("40", "123456", 8, 1), 0,
                y -> y.link(34, 33));
        Bounds.takes("the same mean, and no tolerance", () -> promised("8", "1", 8, 0), 0,
                y -> y.link(7, 0));
    }

    private static void notWhilePromised() {
        Bounds.Maker kept = () -> {
            LadderMakers x = promised("8", "1", 8, 5000);
            Makers.retype(x, "8");
            return x;
        };
        Bounds.Maker released = () -> {
            LadderMakers x = kept.make();
            x.release();
            return x;
        };
        Bounds.refuses("load() of the same board", kept, Check.BAD_STATE, LadderMakers::load);
        Bounds.refuses("the same order", kept, Check.BAD_STATE, x -> x.order(0, NONE, NONE, NONE));
        Bounds.refuses("the same setting", kept, Check.BAD_STATE, x -> x.set(2, 5000));
        Bounds.takes("load() without a promise", released, 0, LadderMakers::load);
        Bounds.takes("order() without a promise", released, 1, x -> x.order(0, NONE, NONE, NONE));
        Bounds.takes("set() without a promise", released, 5000, x -> x.set(2, 5000));
    }

    // ---- Settings

    private static void settings() {
        Doc.says("Settings",
                "0: beyond the goal, 0 to 2, at first 0; 1: the horizon, 1 to 8, at first 6; 2: the"
                        + " tolerance, 0 to 5000, at first 100.");
        int[] first = {0, 6, 100};
        int[] least = {0, 1, 0};
        int[] most = {2, 8, 5000};
        for (int i = 0; i < 3; i++) {
            int setting = i;
            Bounds.takes("setting " + i, LadderMakers::new, first[i], x -> x.setting(setting));
            Bounds.range("setting " + i, LadderMakers::new, least[i], most[i], Check.BAD_ARGUMENT,
                    (x, v) -> x.set(setting, v));
        }
        Bounds.takes("the mean by the horizon at first", () -> Makers.withBoardAndDie("8", "1"), 6,
                x -> x.mean(0, 0));
        Bounds.Maker first100 = () -> {
            LadderMakers x = Makers.withBoardAndDie("8", "1");
            x.set(1, 8);
            x.promise();
            return x;
        };
        Bounds.refuses("a turn less by the tolerance at first", first100, Check.BAD_STATE,
                x -> x.link(1, 2));
    }

    // ---- Input texts

    private static void buffer() {
        Doc.says("Input texts", "The buffer has at most 60 characters.");
        Bounds.takes("the character 60", () -> typed("~".repeat(59)), 60, x -> x.append('1'));
        Bounds.refuses("a character 61", () -> typed("~".repeat(60)), Check.BAD_STATE,
                x -> x.append('1'));
        String longest = "40:10>30,11>30,12>30,13>30,14>30,15>30,16>30,17>30,1>30,2>30";
        Check.due("length of a longest text", longest.length(), 60);
        Bounds.takes("a board of 60 characters", () -> typed(longest), 10, LadderMakers::load);
    }

    private static void boardTexts() {
        Doc.says("Input texts",
                "There are two kinds of texts: 0 a board: its goal, and perhaps \":\" and one or more"
                        + " links with \",\" between them, each one a square, \">\" and a square;"
                        + " squares and goals are numbers without leading zeros (the goal 8 to 40, a"
                        + " square 0 to 40); 1 a die: 1 to 6 digits, 1 to 9, its faces.");
        for (int goal = 0; goal <= 99; goal++) {
            String text = "" + goal;
            if (goal >= 8 && goal <= 40) {
                Bounds.takes("goal " + text, () -> typed(text), goal, x -> x.load() + x.count(0));
            } else {
                Bounds.refuses("goal " + text, () -> typed(text), Check.BAD_ARGUMENT,
                        LadderMakers::load);
            }
        }
        for (int square = 0; square <= 99; square++) {
            int error = square <= 40 ? -1 : 1;
            isSquareText("" + square, error);
        }
        String[] zeros = {"00", "01", "08", "040", "000"};
        for (String text : zeros) {
            isSquareText(text, 1);
            Bounds.refuses("goal " + text, () -> typed(text), Check.BAD_ARGUMENT, LadderMakers::load);
        }
        isSquareText("400", 2);
        isSquareText("100", 2);
        String[] noBoards = {"", ":", "8:", "8:1", "8:1>", "8:>1", "8:1>2,", "8:1>2,3", "8:1>2,3>",
            "8,1>2", "8:,1>2", "8:1>2,,3>4", "8:1>2:3>4", "8:1>2>3", "8::1>2", "8:1-2", "1>2"};
        for (String text : noBoards) {
            Bounds.refuses("board '" + text + "'", () -> typed(text), Check.BAD_ARGUMENT,
                    LadderMakers::load);
        }
        Bounds.takes("no links", () -> typed("8"), 0, LadderMakers::load);
        Bounds.takes("one link", () -> typed("8:1>2"), 1, LadderMakers::load);
        Bounds.takes("two links", () -> typed("8:1>2,3>4"), 2, LadderMakers::load);
    }

    /** The text stands as a square at either end of a link; NONE: it is none of its characters. */
    private static void isSquareText(String text, int error) {
        String begin = "40:" + text + ">0";
        String end = "40:20>" + text;
        int dueBegin = error == NONE ? begin.length() : 3 + error;
        int dueEnd = error == NONE ? end.length() : 6 + error;
        Bounds.takes("first error of " + begin, () -> typed(begin), dueBegin,
                x -> x.firstError(true));
        Bounds.takes("first error of " + end, () -> typed(end), dueEnd, x -> x.firstError(true));
    }

    private static void dieTexts() {
        String[] dice = {"1", "9", "12", "99999", "123456", "999999"};
        String[] noDice = {"", "0", "10", "01", "999990", "1234567", "1,2", ":", "/", "a", "8:1>2"};
        for (String text : dice) {
            Bounds.takes("die " + text, () -> typed(text), text.length(), x -> x.die(1));
        }
        for (String text : noDice) {
            Bounds.refuses("die " + text, () -> typed(text), Check.BAD_ARGUMENT, x -> x.die(1));
        }
    }

    private static void syntaxErrors() {
        Doc.says("Input texts",
                "The buffer is read from left to right; a character is a syntax error of a kind if no"
                        + " text of this kind, of any length, begins with the characters before it"
                        + " and this character.");
        String[] right = {"", "1", "4", "8", "40", "9:", "8:0", "8:4", "8:40", "8:1>", "8:1>2",
            "8:1>2,"};
        for (String text : right) {
            boardError(text, text.length());
        }
        String[] lastIsWrong = {"0", "5", "7", "x", "41", "90", "1:", "8x", "8>", "8,", "8::", "8:00",
            "8:41", "8:50", "8:401", "8:1,", "8:1:", "8:1>>", "8:1>2>", "8:1>2:", "8:1>2,,"};
        for (String text : lastIsWrong) {
            boardError(text, text.length() - 1);
            boardError(text + "8:1>2", text.length() - 1);
        }
        String most = "8:" + "1>2,".repeat(14) + "1>";
        boardError(most, 60);
        Bounds.takes("six digits", () -> typed("123456"), 6, x -> x.firstError(false));
        Bounds.takes("seven digits", () -> typed("1234567"), 6, x -> x.firstError(false));
        Bounds.takes("the first one of two errors", () -> typed("1001"), 1, x -> x.firstError(false));
        Doc.says("Input texts", "(Whether links are allowed on this board is no matter of syntax.)");
        String[] notAllowed = {"8:0>1", "8:8>1", "8:9>40", "8:1>1", "8:1>2,2>3", "8:1>2,1>2",
            "8:1>40,40>0", "8:" + "1>0,".repeat(11) + "1>0"};
        for (String text : notAllowed) {
            Bounds.takes("board " + text, () -> typed(text), text.length(), x -> x.firstError(true));
            Bounds.refuses("load of " + text, () -> typed(text), Check.BAD_STATE,
                    LadderMakers::load);
        }
    }

    private static void boardError(String text, int due) {
        Bounds.takes("board '" + text + "'", () -> typed(text), due, x -> x.firstError(true));
    }

    // ---- Undo

    private static LadderMakers ready() {
        LadderMakers x = Makers.withBoard("12:3>8,10>4");
        x.addPlayer();
        x.set(2, 5000);
        x.promise();
        Makers.type(x, "123456");
        return x;
    }

    private static LadderMakers free() {
        LadderMakers x = Makers.withBoard("12:3>8,10>4");
        x.addPlayer();
        x.roll(0, 0);
        Makers.type(x, "12:3>8,10>4");
        return x;
    }

    private static void savedStates() {
        Doc.says("Undo",
                "Each method that is marked \"undoable\" and does not throw an exception saves the"
                        + " state from before it (also if it changes nothing): all but the buffer"
                        + " and the saved states.");
        Bounds.undoable("load() of the same board", BoundaryTerms::free, LadderMakers::load);
        Bounds.undoable("die() of the same faces", BoundaryTerms::ready, x -> x.die(0));
        Bounds.undoable("the same order", BoundaryTerms::free, x -> x.order(0, NONE, NONE, NONE));
        Bounds.undoable("link()", BoundaryTerms::ready, x -> x.link(5, 6));
        Bounds.undoable("unlink()", BoundaryTerms::ready, x -> x.unlink(0));
        Bounds.undoable("shift() to the same square", BoundaryTerms::ready, x -> x.shift(0, 3));
        Bounds.undoable("the same setting", BoundaryTerms::free, x -> x.set(1, 6));
        Bounds.undoable("the same promise", BoundaryTerms::ready, LadderMakers::promise);
        Bounds.undoable("release()", BoundaryTerms::ready, LadderMakers::release);
        Bounds.undoable("release() without a promise", BoundaryTerms::free, LadderMakers::release);
        Bounds.undoable("addPlayer()", BoundaryTerms::ready, LadderMakers::addPlayer);
        Bounds.undoable("roll()", BoundaryTerms::ready, x -> x.roll(0, 2));
        savesNothing();
        LadderMakers x = ready();
        x.link(5, 6);
        x.append('!');
        Check.due("undo", x.undo(), 4);
        Check.due("the buffer is not brought back", x.clearBuffer(), 7);
        LadderMakers y = free();
        y.load();
        y.undo();
        Check.due("nor is the one that was loaded", y.clearBuffer(), 0);
    }

    private static void savesNothing() {
        Bounds.Use[] uses = {x -> x.append('1'), LadderMakers::clearBuffer, x -> x.firstError(true),
            x -> x.square(0, 0), x -> x.linkOf(0, 0), x -> x.face(0, 0), x -> x.player(0, 0),
            x -> x.count(0), x -> x.setting(0), x -> x.after(0, 1), x -> x.mean(0, 0),
            x -> x.chance(0, 8, 0), x -> x.shortest(0, NONE), x -> x.ifLinked(5, 6, 0),
            x -> x.bestLink(0, 0), x -> x.bestSide(0), x -> (long) x.meanLength(),
            LadderMakers::digest};
        for (int i = 0; i < uses.length; i++) {
            LadderMakers x = ready();
            int saved = x.count(9);
            uses[i].on(x);
            Check.due("saved states behind the call " + i, x.count(9), saved);
        }
        LadderMakers y = ready();
        Check.fails("a refused call", Check.BAD_ARGUMENT, () -> y.link(0, 1));
        Check.due("saves none", y.count(9), 4);
    }

    private static void sixStates() {
        Doc.says("Undo", "At most 6 states are saved; the oldest one is dropped first.");
        for (int changes = 0; changes <= 14; changes++) {
            LadderMakers x = new LadderMakers();
            for (int value = 1; value <= changes; value++) {
                x.set(2, value);
            }
            int saved = Math.min(changes, 6);
            Check.due("saved behind " + changes, x.count(9), saved);
            for (int left = saved - 1; left >= 0; left--) {
                Check.answers("undo", left, x::undo);
                int value = changes - saved + left;
                Check.due("the state before", x.setting(2), value == 0 ? 100 : value);
            }
            Check.fails("no state is left", Check.BAD_STATE, x::undo);
        }
    }

    // ---- Exceptions

    private static void exceptions() {
        Doc.says("Exceptions", "A call that throws an exception changes nothing.");
        refusedCalls();
        Doc.says("Exceptions",
                "If several exceptions apply, the one that is named first in the throws clause is"
                        + " thrown.");
        severalExceptions();
        Doc.says("Exceptions", "The constants: `NONE = -1`: There is nothing to return.");
        Check.due("NONE", LadderMakers.NONE, -1);
    }

    /** 10 links, 4 players, one of them on the goal, 6 saved states and a full buffer. */
    private static LadderMakers full() {
        LadderMakers x = Makers.withBoard("20:1>0,2>0,3>0,4>0,5>0,6>0,7>0,8>0,10>0");
        Makers.giveDie(x, 0, "9");
        for (int player = 0; player < 4; player++) {
            x.addPlayer();
        }
        x.set(0, 2);
        x.roll(3, 0);
        x.roll(3, 0);
        x.roll(3, 0);
        x.link(9, 0);
        x.set(2, 0);
        x.promise();
        Makers.type(x, "8".repeat(60));
        return x;
    }

    private static void refusedCalls() {
        Bounds.Maker full = BoundaryTerms::full;
        Bounds.refuses("load()", full, Check.BAD_ARGUMENT, LadderMakers::load);
        Bounds.refuses("die()", full, Check.BAD_ARGUMENT, x -> x.die(0));
        Bounds.refuses("order()", full, Check.BAD_STATE, x -> x.order(1, NONE, NONE, NONE));
        Bounds.refuses("link()", full, Check.BAD_STATE, x -> x.link(11, 12));
        Bounds.refuses("unlink()", full, Check.BAD_STATE, x -> x.unlink(9));
        Bounds.refuses("shift()", full, Check.BAD_STATE, x -> x.shift(9, 11));
        Bounds.refuses("set()", full, Check.BAD_STATE, x -> x.set(1, 1));
        Bounds.refuses("addPlayer()", full, Check.BAD_STATE, LadderMakers::addPlayer);
        Bounds.refuses("roll()", full, Check.BAD_STATE, x -> x.roll(3, 0));
        Bounds.refuses("append()", full, Check.BAD_STATE, x -> x.append('1'));
        Bounds.refuses("undo()", LadderMakers::new, Check.BAD_STATE, LadderMakers::undo);
        Bounds.refuses("square()", full, Check.BAD_ARGUMENT, x -> x.square(0, 4));
        Bounds.refuses("linkOf()", full, Check.BAD_ARGUMENT, x -> x.linkOf(0, 3));
        Bounds.refuses("face()", full, Check.BAD_ARGUMENT, x -> x.face(0, 6));
        Bounds.refuses("player()", full, Check.BAD_ARGUMENT, x -> x.player(0, 5));
        Bounds.refuses("count()", full, Check.BAD_ARGUMENT, x -> x.count(14));
        Bounds.refuses("setting()", full, Check.NO_INDEX, x -> x.setting(3));
        Bounds.refuses("after()", full, Check.BAD_ARGUMENT, x -> x.after(0, 10));
        Bounds.refuses("mean()", full, Check.BAD_ARGUMENT, x -> x.mean(0, 2));
        Bounds.refuses("chance()", full, Check.BAD_ARGUMENT, x -> x.chance(0, 9, 0));
        Bounds.refuses("shortest()", full, Check.BAD_ARGUMENT, x -> x.shortest(0, 40));
        Bounds.refuses("ifLinked()", full, Check.BAD_ARGUMENT, x -> x.ifLinked(11, 12, 3));
        Bounds.refuses("bestLink()", full, Check.BAD_ARGUMENT, x -> x.bestLink(8001, 0));
        Bounds.refuses("bestSide()", full, Check.NO_INDEX, x -> x.bestSide(4));
    }

    private static void severalExceptions() {
        Bounds.Maker full = BoundaryTerms::full;
        Bounds.refuses("load: incomplete, a promise", full, Check.BAD_ARGUMENT, LadderMakers::load);
        Bounds.refuses("die: no die, incomplete", full, Check.NO_INDEX, x -> x.die(3));
        Bounds.refuses("order: out of range, a promise", full, Check.BAD_ARGUMENT,
                x -> x.order(3, NONE, NONE, NONE));
        Bounds.refuses("order: a number behind NONE, a promise", full, Check.BAD_ARGUMENT,
                x -> x.order(0, NONE, 0, NONE));
        Bounds.refuses("link: no square, not allowed, 10 links", full, Check.NO_INDEX,
                x -> x.link(0, 21));
        Bounds.refuses("link: no square, both the same", full, Check.NO_INDEX, x -> x.link(21, 21));
        Bounds.refuses("link: not allowed, 10 links", full, Check.BAD_ARGUMENT, x -> x.link(9, 11));
        Bounds.refuses("link: both the same, 10 links", full, Check.BAD_ARGUMENT,
                x -> x.link(11, 11));
        Bounds.refuses("shift: no link, not allowed", full, Check.NO_INDEX, x -> x.shift(10, 20));
        Bounds.refuses("shift: no square, a promise", full, Check.NO_INDEX, x -> x.shift(9, 21));
        Bounds.refuses("shift: not allowed, a promise", full, Check.BAD_ARGUMENT,
                x -> x.shift(9, 20));
        Bounds.refuses("set: no setting, out of range, a promise", full, Check.NO_INDEX,
                x -> x.set(3, -1));
        Bounds.refuses("set: out of range, a promise", full, Check.BAD_ARGUMENT, x -> x.set(1, 0));
        Bounds.refuses("roll: no player, no side", full, Check.NO_INDEX, x -> x.roll(4, 1));
        Bounds.refuses("roll: no side, on the goal", full, Check.BAD_ARGUMENT, x -> x.roll(3, 1));
        Bounds.refuses("append: no code, 60 characters", full, Check.BAD_ARGUMENT,
                x -> x.append(32));
        Bounds.refuses("square", full, Check.NO_INDEX, x -> x.square(21, 4));
        Bounds.refuses("linkOf", full, Check.NO_INDEX, x -> x.linkOf(10, 3));
        Bounds.refuses("face", full, Check.NO_INDEX, x -> x.face(3, 6));
        Bounds.refuses("player", full, Check.NO_INDEX, x -> x.player(4, 5));
        Bounds.refuses("after: no square", full, Check.NO_INDEX, x -> x.after(21, 10));
        Bounds.refuses("after: the goal", full, Check.NO_INDEX, x -> x.after(20, 10));
        Bounds.refuses("mean", full, Check.NO_INDEX, x -> x.mean(21, 2));
        Bounds.refuses("chance", full, Check.NO_INDEX, x -> x.chance(21, 9, 2));
        Bounds.refuses("shortest", full, Check.NO_INDEX, x -> x.shortest(21, 40));
        Bounds.refuses("ifLinked: no square, not allowed", full, Check.NO_INDEX,
                x -> x.ifLinked(0, 21, 3));
    }
}
