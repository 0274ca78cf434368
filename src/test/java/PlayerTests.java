/** Promises 11 and 12: players. */
public final class PlayerTests {
    private static final int NONE = LadderMakers.NONE;

    public static void main(String[] args) {
        promise11AddPlayer();
        promise12Roll();
        promise12RollByOrder();
        promise12RollWrong();
        promise12ThousandTurns();
        Check.end();
    }

    private static void promise11AddPlayer() {
        LadderMakers x = new LadderMakers();
        for (int player = 0; player < 4; player++) {
            Check.due("addPlayer", x.addPlayer(), player);
            Check.due("stands on 0", x.player(player, 0), 0);
            Check.due("made no turns", x.player(player, 1), 0);
        }
        Check.failsUnchanged(x, "a fifth player", Check.BAD_STATE, x::addPlayer);
        Check.due("saved states", x.count(9), 4);
        Check.due("undo", x.undo(), 3);
        Check.due("players", x.count(4), 3);
        x.roll(2, 3);
        Check.due("addPlayer again", x.addPlayer(), 3);
        x.roll(3, 0);
        x.undo();
        x.undo();
        Check.due("a player again", x.addPlayer(), 3);
        Check.due("stands on 0 again", x.player(3, 0), 0);
        Check.due("and made no turns", x.player(3, 1), 0);
    }

    private static void promise12Roll() {
        LadderMakers x = Makers.withBoard("12:3>8,10>4");
        x.addPlayer();
        x.addPlayer();
        Check.due("roll to a ladder", x.roll(0, 2), 8);
        Check.due("roll to a snake", x.roll(0, 1), 4);
        Check.due("turns", x.player(0, 1), 2);
        Check.due("the other one stays", x.player(1, 0), 0);
        Check.due("roll", x.roll(0, 5), 4);
        Check.due("roll", x.roll(0, 4), 9);
        Check.due("beyond the goal one stays", x.roll(0, 4), 9);
        Check.due("roll to the goal", x.roll(0, 2), 12);
        Check.failsUnchanged(x, "roll on the goal", Check.BAD_STATE, () -> x.roll(0, 0));
        Check.due("undo", x.undo(), 5);
        Check.due("square again", x.player(0, 0), 9);
        Check.due("turns again", x.player(0, 1), 5);
    }

    private static void promise12RollByOrder() {
        LadderMakers x = new LadderMakers();
        Makers.giveDie(x, 1, "79");
        Makers.giveDie(x, 2, "1");
        x.order(1, 2, NONE, NONE);
        x.addPlayer();
        x.addPlayer();
        Check.due("turn 0 of player 0", x.roll(0, 1), 9);
        Check.due("turn 0 of player 1", x.roll(1, 0), 7);
        Check.fails("turn 1 has one side only", Check.BAD_ARGUMENT, () -> x.roll(0, 1));
        Check.due("turn 1 of player 0", x.roll(0, 0), 10);
        Check.due("turn 2 of player 0", x.roll(0, 0), 17);
        x.order(2, 2, 2, 1);
        Check.due("turn 3 by the new order", x.roll(0, 0), 17);
        Check.due("turn 1 of player 1 by the new order", x.roll(1, 0), 8);
    }

    private static void promise12RollWrong() {
        LadderMakers x = new LadderMakers();
        Check.fails("no player at all", Check.NO_INDEX, () -> x.roll(0, 0));
        x.addPlayer();
        for (int player : new int[] {-1, 1, Integer.MIN_VALUE, Integer.MAX_VALUE}) {
            Check.failsUnchanged(x, "roll(" + player + ")", Check.NO_INDEX, () -> x.roll(player, 9));
        }
        for (int side : new int[] {-1, 6, Integer.MIN_VALUE, Integer.MAX_VALUE}) {
            Check.failsUnchanged(x, "side " + side, Check.BAD_ARGUMENT, () -> x.roll(0, side));
        }
        LadderMakers y = Makers.withBoardAndDie("8", "8");
        y.addPlayer();
        y.roll(0, 0);
        Check.failsUnchanged(y, "on the goal", Check.BAD_STATE, () -> y.roll(0, 0));
        Check.failsUnchanged(y, "no side, on the goal", Check.BAD_ARGUMENT, () -> y.roll(0, 1));
    }

    /** More calls than are promised, but the limit of turns is reached by no other way. */
    private static void promise12ThousandTurns() {
        LadderMakers x = Makers.withBoardAndDie("8:1>0", "1");
        x.addPlayer();
        for (int turn = 0; turn < 1000; turn++) {
            Check.due("turn " + turn, x.roll(0, 0), 0);
        }
        Check.failsUnchanged(x, "turn 1000", Check.BAD_STATE, () -> x.roll(0, 0));
        Check.failsUnchanged(x, "no side, turn 1000", Check.BAD_ARGUMENT, () -> x.roll(0, 1));
        Check.due("turns", x.player(0, 1), 1000);
        Check.due("best side of a player who can't roll", x.bestSide(0), 0);
    }
}
