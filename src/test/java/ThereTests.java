/** Promises 17 to 22: what there is. */
public final class ThereTests {
    private static final int NONE = LadderMakers.NONE;
    private static final int LEAST = Integer.MIN_VALUE;
    private static final int MOST = Integer.MAX_VALUE;

    public static void main(String[] args) {
        promise17Square();
        promise17CanBegin();
        promise18LinkOf();
        promise19Face();
        promise20Player();
        promise20Rank();
        promise21Count();
        promise22Setting();
        Check.end();
    }

    private static void promise17Square() {
        LadderMakers x = Makers.withBoard("12:3>8,10>4,11>8");
        x.addPlayer();
        x.addPlayer();
        x.roll(1, 2);
        Check.due("leads to", x.square(3, 0), 8);
        Check.due("leads to", x.square(10, 0), 4);
        Check.due("no link begins", x.square(8, 0), NONE);
        Check.due("no link begins", x.square(0, 0), NONE);
        Check.due("two end", x.square(8, 1), 2);
        Check.due("one ends", x.square(4, 1), 1);
        Check.due("none ends", x.square(3, 1), 0);
        Check.due("a player on 0", x.square(0, 2), 1);
        Check.due("a player on 8", x.square(8, 2), 1);
        Check.due("no player", x.square(3, 2), 0);
        for (int square : new int[] {-1, 13, LEAST, MOST}) {
            Check.fails("square(" + square + ")", Check.NO_INDEX, () -> x.square(square, 4));
        }
        for (int what : new int[] {-1, 4, LEAST, MOST}) {
            Check.fails("what " + what, Check.BAD_ARGUMENT, () -> x.square(12, what));
        }
    }

    private static void promise17CanBegin() {
        LadderMakers x = Makers.withBoard("12:3>8,10>4");
        int[] can = {0, 1, 1, 0, 0, 1, 1, 1, 0, 1, 0, 1, 0};
        for (int square = 0; square <= 12; square++) {
            Check.due("square(" + square + ", 3)", x.square(square, 3), can[square]);
        }
        x.set(2, 0);
        x.promise();
        Check.due("a promise does not matter", x.square(5, 3), 1);
        LadderMakers full = Makers.withBoard("20:1>0,2>0,3>0,4>0,5>0,6>0,7>0,8>0,9>0,10>0");
        Check.due("10 links do not matter", full.square(11, 3), 1);
        Check.due("but a link that begins there", full.square(10, 3), 0);
    }

    private static void promise18LinkOf() {
        LadderMakers x = Makers.withBoard("40:3>8,39>0");
        int[][] links = {{3, 8, 5}, {39, 0, -39}};
        for (int link = 0; link < 2; link++) {
            for (int what = 0; what < 3; what++) {
                Check.due("linkOf(" + link + "," + what + ")", x.linkOf(link, what), links[link][what]);
            }
        }
        for (int link : new int[] {-1, 2, LEAST, MOST}) {
            Check.fails("linkOf(" + link + ")", Check.NO_INDEX, () -> x.linkOf(link, 3));
        }
        for (int what : new int[] {-1, 3, LEAST, MOST}) {
            Check.fails("what " + what, Check.BAD_ARGUMENT, () -> x.linkOf(1, what));
        }
    }

    private static void promise19Face() {
        LadderMakers x = new LadderMakers();
        Makers.giveDie(x, 1, "95");
        int[] faces = {9, 5, NONE, NONE, NONE, NONE};
        for (int side = 0; side < 6; side++) {
            Check.due("face(0)", x.face(0, side), side + 1);
            Check.due("face(1)", x.face(1, side), faces[side]);
        }
        for (int die : new int[] {-1, 3, LEAST, MOST}) {
            Check.fails("face(" + die + ")", Check.NO_INDEX, () -> x.face(die, 6));
        }
        for (int side : new int[] {-1, 6, LEAST, MOST}) {
            Check.fails("side " + side, Check.BAD_ARGUMENT, () -> x.face(2, side));
        }
    }

    private static void promise20Player() {
        LadderMakers x = Makers.withBoard("8");
        x.order(0, 2, 1, NONE);
        x.addPlayer();
        x.roll(0, 4);
        int[] properties = {5, 1, 0, 2, 1};
        for (int what = 0; what < 5; what++) {
            Check.due("player(0," + what + ")", x.player(0, what), properties[what]);
        }
        x.roll(0, 2);
        int[] onGoal = {8, 2, 1, 1, 1};
        for (int what = 0; what < 5; what++) {
            Check.due("player(0," + what + ") on the goal", x.player(0, what), onGoal[what]);
        }
        for (int player : new int[] {-1, 1, LEAST, MOST}) {
            Check.fails("player(" + player + ")", Check.NO_INDEX, () -> x.player(player, 5));
        }
        for (int what : new int[] {-1, 5, LEAST, MOST}) {
            Check.fails("what " + what, Check.BAD_ARGUMENT, () -> x.player(0, what));
        }
        Check.fails("no players", Check.NO_INDEX, () -> new LadderMakers().player(0, 0));
    }

    private static void promise20Rank() {
        LadderMakers x = new LadderMakers();
        for (int player = 0; player < 4; player++) {
            x.addPlayer();
            Check.due("all the same", x.player(player, 4), 1);
        }
        x.roll(0, 4);
        x.roll(1, 1);
        x.roll(1, 2);
        x.roll(2, 4);
        int[] ranks = {1, 3, 1, 4};
        for (int player = 0; player < 4; player++) {
            Check.due("rank of " + player, x.player(player, 4), ranks[player]);
        }
        x.roll(3, 5);
        Check.due("the first one now", x.player(3, 4), 1);
        Check.due("no more the first one", x.player(0, 4), 2);
    }

    private static void promise21Count() {
        LadderMakers x = Makers.withBoardAndDie("10:3>8,9>4,1>2", "8");
        x.addPlayer();
        x.addPlayer();
        x.roll(0, 0);
        x.order(0, 1, 2, 2);
        x.promise();
        int[] counts = {10, 3, 2, 1, 2, 0, 4, 1, x.promise(), 6, 0, 1, 2, 2};
        for (int what = 0; what < counts.length; what++) {
            Check.due("count(" + what + ")", x.count(what), counts[what]);
        }
        for (int what : new int[] {-1, 14, LEAST, MOST}) {
            Check.fails("count(" + what + ")", Check.BAD_ARGUMENT, () -> x.count(what));
        }
        x.release();
        x.order(1, NONE, NONE, NONE);
        x.roll(1, 3);
        x.roll(0, 1);
        x.roll(1, 5);
        Check.due("players on the goal", x.count(5), 2);
        Check.due("no promised mean", x.count(8), NONE);
        Check.due("no second die", x.count(11), NONE);
    }

    private static void promise22Setting() {
        LadderMakers x = new LadderMakers();
        x.set(0, 1);
        x.set(1, 8);
        x.set(2, 5000);
        Check.due("setting 0", x.setting(0), 1);
        Check.due("setting 1", x.setting(1), 8);
        Check.due("setting 2", x.setting(2), 5000);
        for (int setting : new int[] {-1, 3, LEAST, MOST}) {
            Check.fails("setting(" + setting + ")", Check.NO_INDEX, () -> x.setting(setting));
        }
    }
}
