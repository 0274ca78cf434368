/** Promises 23 to 31: what would be. */
public final class OutlookTests {
    private static final int NONE = LadderMakers.NONE;
    private static final int LEAST = Integer.MIN_VALUE;
    private static final int MOST = Integer.MAX_VALUE;

    public static void main(String[] args) {
        promise23After();
        promise23BeyondTheGoal();
        promise23AfterWrong();
        promise24Mean();
        promise24MeanByOrder();
        promise24MeanOfAllRolls();
        promise25Chance();
        promise26Shortest();
        promise26LongGames();
        promise26TooLongGames();
        promise26ShortestByOrder();
        promise26ShortestWrong();
        promise27IfLinked();
        promise27LinkNow();
        promise27IfLinkedWrong();
        promise28BestLink();
        promise28NoLink();
        promise28BestOfAll();
        promise29BestSide();
        promise30MeanLength();
        promise31Digest();
        behindABoardChange();
        nothingIsChanged();
        Check.end();
    }

    private static void fraction(String what, long numerator, long denominator,
            long dueNumerator, long dueDenominator) {
        Check.due("numerator of " + what, numerator, dueNumerator);
        Check.due("denominator of " + what, denominator, dueDenominator);
    }

    private static void mean(LadderMakers x, int square, long numerator, long denominator) {
        fraction("mean from " + square, x.mean(square, 0), x.mean(square, 1), numerator, denominator);
    }

    private static void chance(LadderMakers x, int square, int turns, long numerator,
            long denominator) {
        fraction("chance from " + square + " within " + turns, x.chance(square, turns, 0),
                x.chance(square, turns, 1), numerator, denominator);
    }

    private static void promise23After() {
        LadderMakers x = Makers.withBoard("12:3>8,10>4,7>12");
        Check.due("no link", x.after(0, 1), 1);
        Check.due("a ladder", x.after(0, 3), 8);
        Check.due("a snake", x.after(9, 1), 4);
        Check.due("a ladder to the goal", x.after(0, 7), 12);
        Check.due("to the goal", x.after(3, 9), 12);
        Check.due("from where a link begins", x.after(10, 1), 11);
        Check.due("beyond the goal", x.after(10, 3), 10);
    }

    private static void promise23BeyondTheGoal() {
        LadderMakers x = Makers.withBoard("12:11>1,8>0,6>2");
        Check.due("0: one stays", x.after(9, 4), 9);
        Check.due("0: one who stays is not moved by links", x.after(11, 2), 11);
        x.set(0, 1);
        Check.due("1: back to where no link begins", x.after(9, 5), 10);
        Check.due("1: back to a link", x.after(9, 4), 1);
        Check.due("1: back to a link", x.after(7, 9), 0);
        Check.due("1: back to the same square, where a link begins", x.after(11, 2), 1);
        Check.due("1: back to the same square", x.after(10, 4), 10);
        Check.due("1: to the goal", x.after(10, 2), 12);
        x.set(0, 2);
        Check.due("2: on the goal", x.after(9, 4), 12);
        Check.due("2: on the goal", x.after(11, 9), 12);
        Check.due("2: not beyond it", x.after(9, 2), 1);
        LadderMakers y = Makers.withBoard("8");
        y.set(0, 1);
        Check.due("1: back to 0", y.after(7, 9), 0);
    }

    private static void promise23AfterWrong() {
        LadderMakers x = Makers.withBoard("12");
        for (int square : new int[] {-1, 12, 13, LEAST, MOST}) {
            Check.fails("after(" + square + ")", Check.NO_INDEX, () -> x.after(square, 0));
        }
        for (int face : new int[] {0, 10, -1, LEAST, MOST}) {
            Check.fails("face " + face, Check.BAD_ARGUMENT, () -> x.after(11, face));
        }
    }

    private static void promise24Mean() {
        // From 4 the goal is rolled with 1 of 2, from 0 with 1 of 2 as well; else one is on 4.
        LadderMakers x = Makers.withBoardAndDie("8", "48");
        x.set(1, 1);
        mean(x, 0, 1, 1);
        mean(x, 8, 0, 1);
        x.set(1, 2);
        mean(x, 0, 3, 2);
        mean(x, 4, 3, 2);
        mean(x, 5, 2, 1);
        x.set(1, 3);
        mean(x, 0, 7, 4);
        x.set(1, 8);
        mean(x, 0, 255, 128);
        mean(x, 1, 8, 1);
        Makers.giveDie(x, 0, "1");
        mean(x, 0, 8, 1);
        mean(x, 7, 1, 1);
        for (int square : new int[] {-1, 9, LEAST, MOST}) {
            Check.fails("mean(" + square + ")", Check.NO_INDEX, () -> x.mean(square, 2));
        }
        for (int part : new int[] {-1, 2, LEAST, MOST}) {
            Check.fails("part " + part, Check.BAD_ARGUMENT, () -> x.mean(8, part));
        }
    }

    private static void promise24MeanByOrder() {
        LadderMakers x = Makers.withBoard("12");
        Makers.giveDie(x, 0, "3");
        Makers.giveDie(x, 1, "6");
        Makers.giveDie(x, 2, "19");
        x.order(0, 1, NONE, NONE);
        mean(x, 0, 3, 1);
        mean(x, 9, 1, 1);
        mean(x, 6, 3, 1);
        x.order(1, 2, 1, NONE);
        // 6 first; then 1 of 2 goes to 7 and stays there; 9 stays on 6, and wins by 6.
        mean(x, 0, 9, 2);
        mean(x, 6, 1, 1);
    }

    /** The mean from each square against all rolls of dice, one by one. */
    private static void promise24MeanOfAllRolls() {
        LadderMakers x = Makers.withBoard("11:3>8,10>4,5>0,2>11");
        Makers.giveDie(x, 0, "135");
        Makers.giveDie(x, 1, "2446");
        for (int rule = 0; rule <= 2; rule++) {
            x.set(0, rule);
            for (int horizon = 1; horizon <= 5; horizon++) {
                x.set(1, horizon);
                x.order(0, NONE, NONE, NONE);
                compareWithAllRolls(x, horizon);
                x.order(1, 0, 0, NONE);
                compareWithAllRolls(x, horizon);
            }
        }
    }

    private static void compareWithAllRolls(LadderMakers x, int horizon) {
        for (int square = 0; square <= x.count(0); square++) {
            long[] totals = new long[3];
            playAllRolls(x, square, 0, horizon, square == x.count(0) ? 0 : NONE, totals);
            Check.due("sum of lengths", x.mean(square, 0) * totals[0], totals[1] * x.mean(square, 1));
            Check.due("games won", x.chance(square, horizon, 0) * totals[0],
                    totals[2] * x.chance(square, horizon, 1));
        }
    }

    /** Totals: all rolls, the sum of their lengths, those that bring one to the goal. */
    private static void playAllRolls(LadderMakers x, int square, int turn, int horizon, int length,
            long[] totals) {
        if (turn == horizon) {
            totals[0]++;
            totals[1] += length == NONE ? horizon : length;
            totals[2] += length == NONE ? 0 : 1;
            return;
        }
        int die = x.count(10 + turn % x.count(6));
        for (int side = 0; side < 6 && x.face(die, side) != NONE; side++) {
            int next = length == NONE ? x.after(square, x.face(die, side)) : square;
            int nextLength = length == NONE && next == x.count(0) ? turn + 1 : length;
            playAllRolls(x, next, turn + 1, horizon, nextLength, totals);
        }
    }

    private static void promise25Chance() {
        LadderMakers x = Makers.withBoardAndDie("8", "48");
        chance(x, 0, 0, 0, 1);
        chance(x, 0, 1, 1, 2);
        chance(x, 0, 2, 3, 4);
        chance(x, 0, 8, 255, 256);
        chance(x, 5, 8, 0, 1);
        chance(x, 8, 0, 1, 1);
        chance(x, 8, 8, 1, 1);
        x.set(1, 1);
        chance(x, 0, 2, 3, 4);
        Makers.giveDie(x, 1, "4");
        x.order(1, 0, NONE, NONE);
        chance(x, 0, 1, 0, 1);
        chance(x, 0, 2, 1, 2);
        chance(x, 0, 3, 1, 1);
        Makers.giveDie(x, 0, "123456");
        x.order(0, NONE, NONE, NONE);
        chance(x, 2, 1, 1, 6);
        for (int square : new int[] {-1, 9, LEAST, MOST}) {
            Check.fails("chance(" + square + ")", Check.NO_INDEX, () -> x.chance(square, 9, 2));
        }
        for (int wrong : new int[] {-1, LEAST, MOST, 9}) {
            Check.fails("turns " + wrong, Check.BAD_ARGUMENT, () -> x.chance(0, wrong, 0));
            Check.fails("part " + wrong, Check.BAD_ARGUMENT, () -> x.chance(0, 0, wrong));
        }
        Check.fails("part 2", Check.BAD_ARGUMENT, () -> x.chance(0, 0, 2));
    }

    private static void shortest(LadderMakers x, int square, int... faces) {
        Check.due("shortest(" + square + ")", x.shortest(square, NONE), faces.length);
        for (int turn = 0; turn < 40; turn++) {
            Check.due("shortest(" + square + "," + turn + ")", x.shortest(square, turn),
                    turn < faces.length ? faces[turn] : NONE);
        }
    }

    private static void promise26Shortest() {
        LadderMakers x = new LadderMakers();
        shortest(x, 0, 2, 6, 6, 6);
        shortest(x, 8, 6, 6);
        shortest(x, 9, 5, 6);
        shortest(x, 19, 1);
        shortest(x, 20);
        x.link(3, 17);
        shortest(x, 0, 3, 3);
        x.link(5, 20);
        shortest(x, 0, 5);
        shortest(x, 3, 2);
        Makers.giveDie(x, 0, "654321");
        shortest(x, 0, 5);
        shortest(x, 9, 5, 6);
        x.set(0, 2);
        shortest(x, 9, 5, 6);
        shortest(x, 10, 4, 6);
        shortest(x, 15, 5);
        x.set(0, 1);
        shortest(x, 19, 1);
        // From 7 the face 2 leads to 7 again, from 6 the face 4; 8 and 6 go from 0 to 6.
        LadderMakers y = Makers.withBoardAndDie("8", "26");
        y.set(0, 1);
        shortest(y, 6, 2);
        shortest(y, 0, 2, 6);
        Check.due("no odd square leads to the goal", y.shortest(7, NONE), NONE);
        Check.due("and has no turn", y.shortest(7, 0), NONE);
    }

    private static void promise26LongGames() {
        LadderMakers x = Makers.withBoardAndDie("40", "1");
        int[] ones = new int[40];
        java.util.Arrays.fill(ones, 1);
        shortest(x, 0, ones);
        shortest(x, 39, 1);
        x.link(39, 0);
        Check.due("no game", x.shortest(0, NONE), NONE);
        Check.due("no turn of it", x.shortest(0, 0), NONE);
        Check.due("a link is not followed where one stands", x.shortest(39, NONE), 1);
        x.unlink(0);
        Makers.giveDie(x, 1, "3");
        x.order(0, 1, NONE, NONE);
        Check.due("4 in 2 turns", x.shortest(0, NONE), 20);
        x.order(0, NONE, NONE, NONE);
        x.link(20, 19);
        Check.due("never further than 19", x.shortest(0, NONE), NONE);
        Check.due("behind it", x.shortest(20, NONE), 20);
        // The first turn leads back to 0; then 4 turns go 12 further, and 39 stays by 9.
        LadderMakers y = Makers.withBoardAndDie("40", "1");
        Makers.giveDie(y, 1, "9");
        y.link(9, 0);
        y.order(1, 0, 0, 0);
        Check.due("turns by the order", y.shortest(0, NONE), 18);
    }

    /** Each link takes back what a 1 goes on; so 3 of 4 turns go nowhere, and the fourth goes by 2. */
    private static void promise26TooLongGames() {
        String links = ":1>0,3>2,5>4,7>6,9>8,11>10,13>12,15>14,17>16,19>18";
        LadderMakers x = Makers.withBoardAndDie("20" + links, "2");
        Makers.giveDie(x, 1, "1");
        x.order(1, 1, 1, 0);
        Check.due("40 turns", x.shortest(0, NONE), 40);
        Check.due("the turn 39", x.shortest(0, 39), 2);
        Makers.type(x, "21" + links);
        x.load();
        Check.due("41 turns", x.shortest(0, NONE), NONE);
        Check.due("no turn of them", x.shortest(0, 0), NONE);
        Check.due("37 turns", x.shortest(2, NONE), 37);
        Check.due("the turn 36", x.shortest(2, 36), 1);
        Check.due("no turn 37", x.shortest(2, 37), NONE);
        x.order(1, NONE, NONE, NONE);
        Check.due("no game at all", x.shortest(0, NONE), NONE);
    }

    private static void promise26ShortestByOrder() {
        LadderMakers x = Makers.withBoard("12");
        Makers.giveDie(x, 0, "21");
        Makers.giveDie(x, 1, "998");
        Makers.giveDie(x, 2, "5");
        x.order(0, 1, NONE, NONE);
        shortest(x, 0, 1, 9, 2);
        shortest(x, 3, 1, 8);
        shortest(x, 1, 2, 9);
        x.order(2, 2, 0, NONE);
        shortest(x, 0, 5, 5, 2);
        shortest(x, 7, 5);
        shortest(x, 1, 5, 5, 1);
        shortest(x, 8, 5, 5, 2, 5, 5, 2);
    }

    private static void promise26ShortestWrong() {
        LadderMakers x = new LadderMakers();
        for (int square : new int[] {-1, 21, LEAST, MOST}) {
            Check.fails("shortest(" + square + ")", Check.NO_INDEX, () -> x.shortest(square, 40));
        }
        for (int turn : new int[] {-2, 40, LEAST, MOST}) {
            Check.fails("turn " + turn, Check.BAD_ARGUMENT, () -> x.shortest(20, turn));
        }
    }

    private static void promise27IfLinked() {
        LadderMakers x = Makers.withBoardAndDie("8", "1");
        x.set(1, 8);
        Check.due("a ladder", x.ifLinked(2, 4, 0), 6);
        Check.due("its denominator", x.ifLinked(2, 4, 1), 1);
        Check.due("a ladder to the goal", x.ifLinked(1, 8, 0), 1);
        Check.due("a snake", x.ifLinked(7, 6, 0), 8);
        Makers.giveDie(x, 0, "48");
        x.set(1, 3);
        fraction("mean if 4 leads to 5", x.ifLinked(4, 5, 0), x.ifLinked(4, 5, 1), 2, 1);
        fraction("mean if 4 leads to 0", x.ifLinked(4, 0, 0), x.ifLinked(4, 0, 1), 7, 4);
        fraction("mean if 4 leads to 8", x.ifLinked(4, 8, 0), x.ifLinked(4, 8, 1), 1, 1);
        Check.due("no link is made", x.count(1), 0);
        LadderMakers full = Makers.withBoard("20:1>0,2>0,3>0,4>0,5>0,6>0,7>0,8>0,9>0,10>0");
        Makers.giveDie(full, 0, "9");
        full.order(1, 0, NONE, NONE);
        Makers.giveDie(full, 1, "2");
        full.set(1, 8);
        Check.due("mean with 10 links", full.mean(0, 0), 8);
        full.order(0, NONE, NONE, NONE);
        Makers.giveDie(full, 0, "47");
        Check.due("with 10 links", full.ifLinked(11, 20, 0), 8);
        full.unlink(6);
        full.link(19, 0);
        Check.due("with 10 links, and 7 then 4", full.ifLinked(11, 20, 0) < 8 * full.ifLinked(11, 20, 1)
                ? 1 : 0, 1);
        Check.due("link() would throw with 10 links", full.ifLinked(11, 20, 2), 0);
        Check.due("there are still 10", full.count(1), 10);
    }

    private static void promise27LinkNow() {
        LadderMakers x = Makers.withBoardAndDie("8", "1");
        x.set(1, 8);
        Check.due("possible", x.ifLinked(1, 8, 2), 1);
        x.set(2, 1000);
        x.promise();
        Check.due("near enough", x.ifLinked(2, 3, 2), 1);
        Check.due("too far", x.ifLinked(2, 4, 2), 0);
        Check.due("the mean is told also then", x.ifLinked(2, 4, 0), 6);
        x.link(2, 3);
        Check.due("too far behind the first link", x.ifLinked(4, 5, 2), 0);
        Check.due("saved states", x.count(9), 6);
        LadderMakers nine = Makers.withBoard("20:1>0,2>0,3>0,4>0,5>0,6>0,7>0,8>0,9>0");
        Check.due("a tenth link", nine.ifLinked(10, 20, 2), 1);
        nine.link(10, 20);
        Check.due("an eleventh link", nine.ifLinked(11, 20, 2), 0);
    }

    private static void promise27IfLinkedWrong() {
        LadderMakers x = Makers.withBoard("12:3>8");
        int[][] outside = {{-1, 3}, {13, 3}, {4, -1}, {4, 13}, {LEAST, 4}, {MOST, 4}, {4, LEAST},
            {4, MOST}};
        int[][] notAllowed = {{0, 5}, {12, 5}, {3, 9}, {8, 9}, {9, 3}, {5, 5}, {8, 3}, {3, 8}, {0, 0}};
        for (int part = -1; part <= 3; part++) {
            int p = part;
            for (int[] w : outside) {
                Check.fails("ifLinked(" + w[0] + "," + w[1] + ")", Check.NO_INDEX,
                        () -> x.ifLinked(w[0], w[1], p));
            }
            for (int[] w : notAllowed) {
                Check.fails("ifLinked(" + w[0] + "," + w[1] + ")", Check.BAD_ARGUMENT,
                        () -> x.ifLinked(w[0], w[1], p));
            }
        }
        for (int part : new int[] {-1, 3, LEAST, MOST}) {
            Check.fails("part " + part, Check.BAD_ARGUMENT, () -> x.ifLinked(4, 5, part));
        }
    }

    private static void best(LadderMakers x, int thousandths, int from, int to) {
        Check.due("bestLink(" + thousandths + ", 0)", x.bestLink(thousandths, 0), from);
        Check.due("bestLink(" + thousandths + ", 1)", x.bestLink(thousandths, 1), to);
    }

    private static void promise28BestLink() {
        LadderMakers x = Makers.withBoardAndDie("8", "1");
        x.set(1, 8);
        best(x, 0, 1, 8);
        best(x, 1000, 1, 8);
        best(x, 2000, 1, 7);
        best(x, 2499, 1, 7);
        best(x, 2500, 1, 6);
        best(x, 2501, 1, 6);
        best(x, 7000, 1, 2);
        best(x, 8000, 1, 0);
        x.link(1, 3);
        best(x, 6000, 2, 0);
        best(x, 5000, 4, 5);
        best(x, 1, 4, 8);
        x.promise();
        best(x, 1, 4, 8);
        for (int thousandths : new int[] {-1, 8001, LEAST, MOST}) {
            Check.fails("bestLink(" + thousandths + ")", Check.BAD_ARGUMENT,
                    () -> x.bestLink(thousandths, 0));
        }
        for (int what : new int[] {-1, 2, LEAST, MOST}) {
            Check.fails("what " + what, Check.BAD_ARGUMENT, () -> x.bestLink(0, what));
        }
        x.release();
        x.set(1, 1);
        best(x, 8000, 2, 0);
    }

    private static void promise28NoLink() {
        LadderMakers x = Makers.withBoard("8:1>2,3>4,5>6");
        best(x, 0, 7, 8);
        x.link(7, 8);
        best(x, 0, NONE, NONE);
        LadderMakers full = Makers.withBoard("20:1>0,2>0,3>0,4>0,5>0,6>0,7>0,8>0,9>0,10>0");
        best(full, 3000, NONE, NONE);
        Check.fails("wrong with 10 links", Check.BAD_ARGUMENT, () -> full.bestLink(8001, 0));
        full.unlink(0);
        Check.isTrue("9 links", full.bestLink(3000, 0) != NONE);
    }

    /** The best link against all links that ifLinked() tells of. */
    private static void promise28BestOfAll() {
        String[] boards = {"8", "20:3>17,12>2,5>11", "13:4>11,10>1,12>6,2>6,5>13", "40:10>30,35>7,3>27"};
        int[] wanted = {0, 1500, 3000, 4200, 5999, 8000};
        for (String board : boards) {
            LadderMakers x = Makers.withBoard(board);
            Makers.giveDie(x, 1, "92");
            Makers.giveDie(x, 2, "3366");
            for (int rule = 0; rule <= 2; rule++) {
                x.set(0, rule);
                for (int horizon = 1; horizon <= 8; horizon++) {
                    x.set(1, horizon);
                    x.order(horizon % 3, rule, (rule + horizon) % 4 - 1, NONE);
                    int thousandths = wanted[(rule * 8 + horizon) % wanted.length];
                    int[] best = bestOfAll(x, thousandths);
                    best(x, thousandths, best[0], best[1]);
                }
            }
        }
    }

    /** The best link by what ifLinked() tells of each link that is allowed. */
    static int[] bestOfAll(LadderMakers x, int thousandths) {
        int[] best = {NONE, NONE};
        long apart = 0;
        long of = 1;
        int goal = x.count(0);
        for (int from = 0; from <= goal; from++) {
            for (int to = 0; x.square(from, 3) == 1 && to <= goal; to++) {
                if (to != from && x.square(to, 0) == NONE) {
                    long denominator = x.ifLinked(from, to, 1);
                    long here = Math.abs(x.ifLinked(from, to, 0) * 1000 - thousandths * denominator);
                    if (best[0] == NONE || here * of < apart * denominator) {
                        best = new int[] {from, to};
                        apart = here;
                        of = denominator;
                    }
                }
            }
        }
        return best;
    }

    private static void promise29BestSide() {
        LadderMakers x = Makers.withBoard("12:3>11,2>0");
        x.addPlayer();
        Makers.giveDie(x, 0, "1");
        Makers.giveDie(x, 1, "2339");
        Makers.giveDie(x, 2, "7");
        x.order(0, 1, 2, 1);
        Check.due("die 0 has one side", x.bestSide(0), 0);
        x.roll(0, 0);
        Check.due("player's square", x.player(0, 0), 1);
        // The faces lead to 11 (by the ladder), 4, 4 and 10; a game from 11 is won at once by die 0.
        Check.due("to 11", x.bestSide(0), 0);
        Makers.giveDie(x, 1, "9332");
        Check.due("the same face on another side", x.bestSide(0), 3);
        Makers.giveDie(x, 1, "9922");
        Check.due("the lowest one of several", x.bestSide(0), 2);
        x.roll(0, 2);
        Check.due("the die of turn 2", x.bestSide(0), 0);
        Makers.giveDie(x, 2, "71");
        Check.due("the side that wins", x.bestSide(0), 1);
        Check.due("wins", x.roll(0, 1), 12);
        Check.due("on the goal", x.bestSide(0), NONE);
        for (int player : new int[] {-1, 1, LEAST, MOST}) {
            Check.fails("bestSide(" + player + ")", Check.NO_INDEX, () -> x.bestSide(player));
        }
    }

    private static void promise30MeanLength() {
        LadderMakers x = Makers.withBoardAndDie("8", "48");
        x.set(1, 3);
        Check.isTrue("7/4", x.meanLength() == 1.75);
        x.set(1, 1);
        Check.isTrue("1", x.meanLength() == 1.0);
        Makers.giveDie(x, 0, "448");
        x.set(1, 2);
        Check.isTrue("5/3", x.meanLength() == 5.0 / 3.0);
        Makers.giveDie(x, 0, "1");
        x.set(1, 8);
        Check.isTrue("8", x.meanLength() == 8.0);
    }

    /** The hash once more, from the answers, in the order that the document tells. */
    static long digestOf(LadderMakers x, String buffer) {
        java.util.ArrayList<Long> v = new java.util.ArrayList<>();
        for (int what = 0; what <= 13; what++) {
            v.add((long) x.count(what));
        }
        for (int setting = 0; setting <= 2; setting++) {
            v.add((long) x.setting(setting));
        }
        for (int square = 0; square <= x.count(0); square++) {
            for (int what = 0; what <= 3; what++) {
                v.add((long) x.square(square, what));
            }
            v.add(x.mean(square, 0));
            v.add(x.mean(square, 1));
            v.add((long) x.shortest(square, NONE));
        }
        for (int link = 0; link < x.count(1); link++) {
            for (int what = 0; what <= 2; what++) {
                v.add((long) x.linkOf(link, what));
            }
        }
        for (int die = 0; die <= 2; die++) {
            for (int side = 0; side <= 5; side++) {
                v.add((long) x.face(die, side));
            }
        }
        for (int player = 0; player < x.count(4); player++) {
            for (int what = 0; what <= 4; what++) {
                v.add((long) x.player(player, what));
            }
            v.add((long) x.bestSide(player));
        }
        v.add(x.chance(0, 3, 0));
        v.add(x.chance(0, 3, 1));
        for (int turn = 0; turn <= 7; turn++) {
            v.add((long) x.shortest(0, turn));
        }
        v.add((long) x.bestLink(3000, 0));
        v.add((long) x.bestLink(3000, 1));
        v.add(Double.doubleToLongBits(x.meanLength()));
        v.add((long) buffer.length());
        for (int i = 0; i < buffer.length(); i++) {
            v.add((long) buffer.charAt(i));
        }
        long hash = 2383;
        for (long value : v) {
            hash = 31 * hash + value;
        }
        return hash;
    }

    private static void promise31Digest() {
        LadderMakers x = new LadderMakers();
        Check.due("digest of a new object", x.digest(), digestOf(x, ""));
        x.link(3, 17);
        x.link(12, 2);
        x.addPlayer();
        x.addPlayer();
        x.roll(1, 5);
        Makers.giveDie(x, 2, "92");
        x.order(2, 0, NONE, NONE);
        x.promise();
        Makers.type(x, "8:1>~");
        Check.due("digest", x.digest(), digestOf(x, "8:1>~"));
        x.clearBuffer();
        Check.due("digest without a buffer", x.digest(), digestOf(x, ""));
        String[] faces = {"1", "48", "448", "9", "123456", "13"};
        for (String text : faces) {
            LadderMakers y = Makers.withBoardAndDie("8:2>5", text);
            for (int horizon = 1; horizon <= 8; horizon++) {
                y.set(1, horizon);
                Check.due("digest with " + text, y.digest(), digestOf(y, ""));
            }
        }
    }

    /** What was found about a greater board must not show in what is told of a smaller one. */
    private static void behindABoardChange() {
        LadderMakers x = new LadderMakers();
        for (String board : new String[] {"8", "40:3>30,8>2", "11", "9:8>1", "8:7>2", "20"}) {
            tellAll(x);
            Makers.retype(x, board);
            x.load();
            LadderMakers fresh = Makers.withBoard(board);
            chance(x, x.count(0), 0, 1, 1);
            chance(x, 0, 0, 0, 1);
            mean(x, x.count(0), 0, 1);
            Check.due("what is told of " + board, tellAll(x), tellAll(fresh));
        }
        tellAll(x);
        Makers.retype(x, "8");
        x.load();
        x.undo();
        chance(x, 8, 0, 0, 1);
        Check.due("what is told behind undo", tellAll(x), tellAll(new LadderMakers()));
    }

    private static long tellAll(LadderMakers x) {
        long hash = 0;
        for (int square = 0; square <= x.count(0); square++) {
            hash = 31 * hash + x.mean(square, 0) + 7 * x.mean(square, 1) + x.shortest(square, 1);
            for (int turns = 8; turns >= 0; turns--) {
                hash = 31 * hash + x.chance(square, turns, 0) + 7 * x.chance(square, turns, 1);
            }
            if (x.square(square, 3) == 1) {
                hash = 31 * hash + x.ifLinked(square, 0, 0) + 7 * x.ifLinked(square, x.count(0), 0);
            }
        }
        for (int thousandths = 0; thousandths <= 8000; thousandths += 500) {
            hash = 31 * hash + x.bestLink(thousandths, 0) + 41 * x.bestLink(thousandths, 1);
        }
        return hash;
    }

    private static void nothingIsChanged() {
        LadderMakers x = Makers.withBoard("12:3>8,10>4");
        x.addPlayer();
        x.promise();
        Makers.type(x, "12");
        long before = x.digest();
        Check.Call[] calls = {() -> x.after(0, 3), () -> x.mean(3, 0), () -> x.chance(1, 8, 1),
            () -> x.shortest(0, 3), () -> x.ifLinked(5, 6, 0), () -> x.ifLinked(5, 12, 2),
            () -> x.bestLink(8000, 1), () -> x.bestSide(0), () -> (long) x.meanLength(), x::digest,
            () -> x.square(3, 3), () -> x.linkOf(0, 2), () -> x.face(0, 5), () -> x.player(0, 4),
            () -> x.count(8), () -> x.setting(2), () -> x.firstError(false)};
        for (int i = 0; i < calls.length; i++) {
            long first = calls[i].run();
            Check.due("digest behind call " + i, x.digest(), before);
            Check.due("call " + i + " again", calls[i].run(), first);
        }
    }
}
