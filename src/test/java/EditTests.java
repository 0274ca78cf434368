/** Promises 1 to 10: a new object, and the edits. */
public final class EditTests {
    private static final int NONE = LadderMakers.NONE;

    public static void main(String[] args) {
        promise01NewObject();
        promise02Load();
        promise02LoadWrong();
        promise02LoadNotAllowed();
        promise03Die();
        promise03DieWrong();
        promise04Order();
        promise05Link();
        promise05LinkWrong();
        promise06Unlink();
        promise07Shift();
        promise07ShiftWrong();
        promise08Set();
        promise09Promise();
        promise09Tolerance();
        promise09Boundary();
        promise10Release();
        Check.end();
    }

    private static void promise01NewObject() {
        LadderMakers x = new LadderMakers();
        int[] counts = {20, 0, 0, 0, 0, 0, 1, 0, NONE, 0, 0, NONE, NONE, NONE};
        for (int what = 0; what < counts.length; what++) {
            Check.due("new count(" + what + ")", x.count(what), counts[what]);
        }
        int[] settings = {0, 6, 100};
        for (int setting = 0; setting < settings.length; setting++) {
            Check.due("new setting(" + setting + ")", x.setting(setting), settings[setting]);
        }
        for (int die = 0; die < 3; die++) {
            for (int side = 0; side < 6; side++) {
                Check.due("new face(" + die + "," + side + ")", x.face(die, side), side + 1);
            }
        }
        Check.due("new clearBuffer", x.clearBuffer(), 0);
        Check.due("NONE", NONE, -1);
        Check.fails("new undo", Check.BAD_STATE, x::undo);
    }

    private static void promise02Load() {
        LadderMakers x = new LadderMakers();
        x.addPlayer();
        x.roll(0, 3);
        Makers.type(x, "12:3>8,10>4");
        Check.due("load", x.load(), 2);
        Check.due("goal", x.count(0), 12);
        Check.due("links", x.count(1), 2);
        Check.due("begin 0", x.linkOf(0, 0), 3);
        Check.due("end 0", x.linkOf(0, 1), 8);
        Check.due("begin 1", x.linkOf(1, 0), 10);
        Check.due("end 1", x.linkOf(1, 1), 4);
        Check.due("player stands on 0", x.player(0, 0), 0);
        Check.due("player made no turns", x.player(0, 1), 0);
        Check.due("players stay in the game", x.count(4), 1);
        Check.due("buffer is cleared", x.clearBuffer(), 0);
        Check.due("saved states", x.count(9), 3);
        Check.due("undo", x.undo(), 2);
        Check.due("goal again", x.count(0), 20);
        Check.due("no links again", x.count(1), 0);
        Check.due("player's square again", x.player(0, 0), 4);
        Check.due("player's turns again", x.player(0, 1), 1);
        Makers.type(x, "40");
        Check.due("load without links", x.load(), 0);
        Check.due("goal 40", x.count(0), 40);
        Makers.type(x, "8:1>0,2>0,3>0,4>8,5>8,6>8,7>8");
        Check.due("load of all squares", x.load(), 7);
        Makers.type(x, "40:1>0,2>0,3>0,4>0,5>0,6>0,7>0,8>0,9>0,39>40");
        Check.due("load of 10 links", x.load(), 10);
        Makers.giveDie(x, 1, "99");
        x.set(0, 2);
        x.order(1, 2, NONE, NONE);
        Makers.type(x, "9");
        Check.due("load of 9", x.load(), 0);
        Check.due("dice stay", x.face(1, 0), 9);
        Check.due("settings stay", x.setting(0), 2);
        Check.due("order stays", x.count(6), 2);
    }

    private static void promise02LoadWrong() {
        String[] incomplete = {"", "1", "4", "7", "8:", "12:", "12:3", "12:3>", "12:3>8,", "12:3>8,1",
            "12:3>8,1>", "41", "08", "12,3>8", "12:03>8", "12:3>41", "12:3>8:1>2", "x", "12!"};
        for (String text : incomplete) {
            LadderMakers x = new LadderMakers();
            Makers.type(x, text);
            Check.failsUnchanged(x, "load of '" + text + "'", Check.BAD_ARGUMENT, x::load);
            Check.due("buffer stays", x.clearBuffer(), text.length());
        }
        LadderMakers x = new LadderMakers();
        x.promise();
        Makers.type(x, "12:");
        Check.failsUnchanged(x, "incomplete with a promise", Check.BAD_ARGUMENT, x::load);
        Makers.retype(x, "12");
        Check.failsUnchanged(x, "load with a promise", Check.BAD_STATE, x::load);
        Check.due("buffer stays", x.clearBuffer(), 2);
    }

    private static void promise02LoadNotAllowed() {
        String[] notAllowed = {"12:0>3", "12:12>3", "12:13>3", "12:3>13", "12:3>40", "12:40>3",
            "12:3>3", "12:3>8,3>9", "12:3>8,8>9", "12:3>8,9>3", "12:3>8,8>3", "12:1>2,3>4,5>5",
            "20:1>0,2>0,3>0,4>0,5>0,6>0,7>0,8>0,9>0,10>0,11>0",
            "8:1>0,1>0,1>0,1>0,1>0,1>0,1>0,1>0,1>0,1>0,1>0,1>0,1>0,1>0"};
        for (String text : notAllowed) {
            LadderMakers x = new LadderMakers();
            x.addPlayer();
            x.roll(0, 0);
            Makers.type(x, text);
            Check.failsUnchanged(x, "load of '" + text + "'", Check.BAD_STATE, x::load);
            Check.due("buffer stays", x.clearBuffer(), text.length());
            Check.due("goal stays", x.count(0), 20);
        }
        LadderMakers x = new LadderMakers();
        Makers.type(x, "12:3>8,4>8,5>12,6>0,11>8");
        Check.due("several links may end on the same square", x.load(), 5);
    }

    private static void promise03Die() {
        LadderMakers x = new LadderMakers();
        Makers.type(x, "919");
        Check.due("die", x.die(2), 3);
        int[] faces = {9, 1, 9, NONE, NONE, NONE};
        for (int side = 0; side < 6; side++) {
            Check.due("face(2," + side + ")", x.face(2, side), faces[side]);
        }
        Check.due("other dice stay", x.face(1, 5), 6);
        Check.due("buffer is cleared", x.clearBuffer(), 0);
        Check.due("saved states", x.count(9), 1);
        Makers.type(x, "1");
        Check.due("die of one side", x.die(0), 1);
        Makers.type(x, "123456");
        Check.due("die of six sides", x.die(0), 6);
        Check.due("undo", x.undo(), 2);
        Check.due("one side again", x.face(0, 1), NONE);
        Check.due("face again", x.face(0, 0), 1);
    }

    private static void promise03DieWrong() {
        String[] wrong = {"", "0", "1234567", "12a", "120", "8:1>2", ":", "10"};
        for (String text : wrong) {
            LadderMakers x = new LadderMakers();
            Makers.type(x, text);
            Check.failsUnchanged(x, "die of '" + text + "'", Check.BAD_ARGUMENT, () -> x.die(0));
            Check.failsUnchanged(x, "no die, and '" + text + "'", Check.NO_INDEX, () -> x.die(3));
            Check.due("buffer stays", x.clearBuffer(), text.length());
        }
        LadderMakers x = new LadderMakers();
        Makers.type(x, "12");
        for (int die : new int[] {-1, 3, Integer.MIN_VALUE, Integer.MAX_VALUE}) {
            Check.failsUnchanged(x, "die(" + die + ")", Check.NO_INDEX, () -> x.die(die));
        }
        x.promise();
        Makers.retype(x, "1");
        Check.failsUnchanged(x, "die against the promise", Check.BAD_STATE, () -> x.die(0));
        Check.due("a die that is not rolled", x.die(1), 1);
        Makers.type(x, "654321");
        Check.due("the same faces in another order", x.die(0), 6);
    }

    private static void promise04Order() {
        LadderMakers x = new LadderMakers();
        Check.due("order of one", x.order(2, NONE, NONE, NONE), 1);
        Check.due("its die", x.count(10), 2);
        Check.due("no second die", x.count(11), NONE);
        Check.due("order of four", x.order(0, 1, 2, 1), 4);
        int[] dice = {0, 1, 2, 1};
        for (int place = 0; place < 4; place++) {
            Check.due("die " + place, x.count(10 + place), dice[place]);
        }
        Check.due("order of three", x.order(1, 1, 1, NONE), 3);
        Check.due("no fourth die", x.count(13), NONE);
        Check.due("order of two", x.order(0, 2, NONE, NONE), 2);
        Check.due("saved states", x.count(9), 4);
        int[][] wrong = {{NONE, NONE, NONE, NONE}, {NONE, 0, NONE, NONE}, {3, 0, 0, 0},
            {0, 3, 0, 0}, {0, 0, 3, 0}, {0, 0, 0, 3}, {-2, 0, 0, 0}, {0, -2, 0, 0}, {0, 0, -2, 0},
            {0, 0, 0, -2}, {0, NONE, 0, NONE}, {0, NONE, NONE, 0}, {0, 1, NONE, 2},
            {0, NONE, 1, 2}, {Integer.MAX_VALUE, 0, 0, 0}, {0, Integer.MIN_VALUE, 0, 0}};
        for (int[] w : wrong) {
            Check.failsUnchanged(x, "order " + java.util.Arrays.toString(w), Check.BAD_ARGUMENT,
                    () -> x.order(w[0], w[1], w[2], w[3]));
        }
        Check.due("undo", x.undo(), 3);
        Check.due("order of three again", x.count(6), 3);
        x.promise();
        Check.failsUnchanged(x, "order with a promise", Check.BAD_STATE,
                () -> x.order(0, NONE, NONE, NONE));
        Check.failsUnchanged(x, "wrong order with a promise", Check.BAD_ARGUMENT,
                () -> x.order(3, NONE, NONE, NONE));
    }

    private static void promise05Link() {
        LadderMakers x = new LadderMakers();
        x.addPlayer();
        x.roll(0, 2);
        Check.due("first link", x.link(3, 11), 0);
        Check.due("players stay where they are", x.player(0, 0), 3);
        Check.due("second link", x.link(19, 0), 1);
        Check.due("to the goal", x.link(1, 20), 2);
        Check.due("to the same square", x.link(4, 11), 3);
        Check.due("links", x.count(1), 4);
        Check.due("ladders", x.count(2), 3);
        Check.due("saved states", x.count(9), 6);
        Check.due("undo", x.undo(), 5);
        Check.due("links again", x.count(1), 3);
    }

    private static void promise05LinkWrong() {
        LadderMakers x = Makers.withBoard("12:3>8");
        int[][] outside = {{-1, 3}, {13, 3}, {4, -1}, {4, 13}, {0, 13}, {Integer.MIN_VALUE, 4},
            {Integer.MAX_VALUE, 4}, {4, Integer.MIN_VALUE}, {4, Integer.MAX_VALUE}, {3, NONE}};
        for (int[] w : outside) {
            Check.failsUnchanged(x, "link(" + w[0] + "," + w[1] + ")", Check.NO_INDEX,
                    () -> x.link(w[0], w[1]));
        }
        int[][] notAllowed = {{0, 5}, {12, 5}, {3, 9}, {8, 9}, {9, 3}, {5, 5}, {8, 3}, {3, 8}, {0, 0}};
        for (int[] w : notAllowed) {
            Check.failsUnchanged(x, "link(" + w[0] + "," + w[1] + ")", Check.BAD_ARGUMENT,
                    () -> x.link(w[0], w[1]));
        }
        LadderMakers full = Makers.withBoard("20:1>0,2>0,3>0,4>0,5>0,6>0,7>0,8>0,9>0,10>0");
        Check.failsUnchanged(full, "an eleventh link", Check.BAD_STATE, () -> full.link(11, 12));
        Check.failsUnchanged(full, "an eleventh link, not allowed", Check.BAD_ARGUMENT,
                () -> full.link(1, 12));
        Check.failsUnchanged(full, "an eleventh link, no square", Check.NO_INDEX,
                () -> full.link(11, 21));
        LadderMakers kept = Makers.withBoard("12");
        kept.promise();
        Check.failsUnchanged(kept, "link against the promise", Check.BAD_STATE,
                () -> kept.link(3, 12));
    }

    private static void promise06Unlink() {
        LadderMakers x = Makers.withBoard("12:3>8,10>4,5>0");
        for (int link : new int[] {-1, 3, Integer.MIN_VALUE, Integer.MAX_VALUE}) {
            Check.failsUnchanged(x, "unlink(" + link + ")", Check.NO_INDEX, () -> x.unlink(link));
        }
        Check.due("unlink", x.unlink(0), 2);
        Check.due("those behind have numbers less by 1", x.linkOf(0, 0), 10);
        Check.due("its end", x.linkOf(0, 1), 4);
        Check.due("the last one", x.linkOf(1, 0), 5);
        Check.due("its end", x.linkOf(1, 1), 0);
        Check.due("undo", x.undo(), 1);
        Check.due("the first one again", x.linkOf(0, 0), 3);
        Check.due("unlink of the last one", x.unlink(2), 2);
        Check.due("unlink", x.unlink(1), 1);
        Check.due("unlink", x.unlink(0), 0);
        Check.fails("no link is left", Check.NO_INDEX, () -> x.unlink(0));
        LadderMakers kept = Makers.withBoard("12:3>12");
        kept.promise();
        Check.failsUnchanged(kept, "unlink against the promise", Check.BAD_STATE,
                () -> kept.unlink(0));
    }

    private static void promise07Shift() {
        LadderMakers x = Makers.withBoard("12:3>8,10>4");
        Check.due("shift", x.shift(0, 5), 3);
        Check.due("its beginning", x.linkOf(0, 0), 5);
        Check.due("its end stays", x.linkOf(0, 1), 8);
        Check.due("its number stays", x.linkOf(1, 0), 10);
        Check.due("to where it begins", x.shift(0, 5), 5);
        Check.due("saved states", x.count(9), 3);
        Check.due("a ladder to a snake", x.shift(0, 11), 5);
        Check.due("snakes", x.count(3), 2);
        Check.due("undo", x.undo(), 3);
        Check.due("undone", x.linkOf(0, 0), 5);
    }

    private static void promise07ShiftWrong() {
        LadderMakers x = Makers.withBoard("12:3>8,10>4");
        int[][] outside = {{-1, 5}, {2, 5}, {0, -1}, {0, 13}, {2, 8}, {Integer.MIN_VALUE, 5},
            {Integer.MAX_VALUE, 5}, {0, Integer.MIN_VALUE}, {0, Integer.MAX_VALUE}};
        for (int[] w : outside) {
            Check.failsUnchanged(x, "shift(" + w[0] + "," + w[1] + ")", Check.NO_INDEX,
                    () -> x.shift(w[0], w[1]));
        }
        int[][] notAllowed = {{0, 0}, {0, 12}, {0, 8}, {0, 10}, {0, 4}, {1, 3}, {1, 8}, {1, 4}};
        for (int[] w : notAllowed) {
            Check.failsUnchanged(x, "shift(" + w[0] + "," + w[1] + ")", Check.BAD_ARGUMENT,
                    () -> x.shift(w[0], w[1]));
        }
        LadderMakers kept = Makers.withBoard("12:3>12");
        kept.promise();
        Check.failsUnchanged(kept, "shift against the promise", Check.BAD_STATE,
                () -> kept.shift(0, 11));
        Check.due("shift to where it begins", kept.shift(0, 3), 3);
    }

    private static void promise08Set() {
        LadderMakers x = new LadderMakers();
        int[] least = {0, 1, 0};
        int[] most = {2, 8, 5000};
        int[] first = {0, 6, 100};
        for (int i = 0; i < 3; i++) {
            int setting = i;
            Check.due("set to the least", x.set(setting, least[setting]), first[setting]);
            Check.due("set to the most", x.set(setting, most[setting]), least[setting]);
            Check.due("setting", x.setting(setting), most[setting]);
            Check.failsUnchanged(x, "below the least", Check.BAD_ARGUMENT,
                    () -> x.set(setting, least[setting] - 1));
            Check.failsUnchanged(x, "above the most", Check.BAD_ARGUMENT,
                    () -> x.set(setting, most[setting] + 1));
            Check.failsUnchanged(x, "far below", Check.BAD_ARGUMENT,
                    () -> x.set(setting, Integer.MIN_VALUE));
            Check.failsUnchanged(x, "far above", Check.BAD_ARGUMENT,
                    () -> x.set(setting, Integer.MAX_VALUE));
        }
        Check.due("saved states", x.count(9), 6);
        Check.due("undo", x.undo(), 5);
        Check.due("undone", x.setting(2), 0);
        for (int setting : new int[] {-1, 3, Integer.MIN_VALUE, Integer.MAX_VALUE}) {
            Check.failsUnchanged(x, "set(" + setting + ")", Check.NO_INDEX, () -> x.set(setting, -1));
        }
        x.promise();
        Check.failsUnchanged(x, "set with a promise", Check.BAD_STATE, () -> x.set(2, 100));
        Check.failsUnchanged(x, "wrong value with a promise", Check.BAD_ARGUMENT, () -> x.set(0, 3));
        Check.failsUnchanged(x, "no setting with a promise", Check.NO_INDEX, () -> x.set(3, 3));
    }

    private static void promise09Promise() {
        // Each game is of 1 or 2 turns or takes all 3: 1/2 * 1 + 1/4 * 2 + 1/4 * 3 = 7/4.
        LadderMakers x = Makers.withBoardAndDie("8", "48");
        x.set(1, 3);
        Check.due("promise", x.promise(), 1750);
        Check.due("there is a promise", x.count(7), 1);
        Check.due("the promised mean", x.count(8), 1750);
        Check.due("a promise in place of it", x.promise(), 1750);
        Check.due("saved states", x.count(9), 5);
        Check.due("undo", x.undo(), 4);
        Check.due("there is still one", x.count(7), 1);
        Check.due("undo", x.undo(), 3);
        Check.due("there is none", x.count(7), 0);
        Check.due("no promised mean", x.count(8), NONE);
        // 4 with 2 of 3, 8 with 1 of 3: 1/3 * 1 + 2/3 * 2 = 5/3.
        LadderMakers y = Makers.withBoardAndDie("8", "448");
        y.set(1, 2);
        Check.due("rounded down", y.promise(), 1666);
    }

    private static void promise09Tolerance() {
        LadderMakers x = Makers.withBoardAndDie("8", "1");
        x.set(1, 8);
        x.set(2, 1000);
        Check.due("promise", x.promise(), 8000);
        Check.due("one turn less", x.link(2, 3), 0);
        Check.failsUnchanged(x, "two turns less", Check.BAD_STATE, () -> x.link(4, 5));
        Check.due("a new promise is of the new mean", x.promise(), 7000);
        Check.due("now two less are possible", x.link(4, 5), 1);
        Check.due("and the promise stays", x.count(8), 7000);
        Check.failsUnchanged(x, "three turns less", Check.BAD_STATE, () -> x.link(6, 7));
        Check.due("and back", x.unlink(0), 1);
        Check.due("and more than promised", x.unlink(0), 0);
        Check.due("mean", x.mean(0, 0), 8);
    }

    private static void promise09Boundary() {
        LadderMakers x = Makers.withBoardAndDie("8", "1");
        x.set(1, 8);
        x.set(2, 999);
        x.promise();
        Check.failsUnchanged(x, "a thousandth too far", Check.BAD_STATE, () -> x.link(2, 3));
        x.release();
        x.set(2, 0);
        x.promise();
        Check.failsUnchanged(x, "no tolerance", Check.BAD_STATE, () -> x.link(2, 3));
        // One comes to 7 in turn 7 and does not win in turn 8: but the horizon is 8 turns anyway.
        Check.due("the same mean with no tolerance", x.link(7, 0), 0);
    }

    private static void promise10Release() {
        LadderMakers x = new LadderMakers();
        Check.due("release without a promise", x.release(), 0);
        Check.due("saves a state also then", x.count(9), 1);
        x.promise();
        Check.due("release", x.release(), 1);
        Check.due("there is none", x.count(7), 0);
        Check.due("no promised mean", x.count(8), NONE);
        Check.due("edits are possible", x.set(0, 1), 0);
        x.undo();
        Check.due("undo", x.undo(), 2);
        Check.due("the promise is back", x.count(7), 1);
        Check.fails("and binds", Check.BAD_STATE, () -> x.set(0, 1));
    }
}
