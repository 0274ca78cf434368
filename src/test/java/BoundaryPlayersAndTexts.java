/** The boundary cases that the document names in the promises 11 to 16. */
final class BoundaryPlayersAndTexts {
    private static final int NONE = LadderMakers.NONE;

    private BoundaryPlayersAndTexts() {
    }

    static void run() {
        promise11();
        promise12();
        promise12Refused();
        promise12ThousandTurns();
        promise13();
        promise14();
        promise15();
        promise15Kinds();
        promise16();
    }

    private static LadderMakers typed(String text) {
        LadderMakers x = new LadderMakers();
        Makers.type(x, text);
        return x;
    }

    private static LadderMakers players(int count) {
        LadderMakers x = Makers.withBoard("12:3>8,10>4");
        for (int player = 0; player < count; player++) {
            x.addPlayer();
        }
        return x;
    }

    // ---- players

    private static void promise11() {
        Doc.says(11, "Adds a player, who stands on 0.");
        LadderMakers x = players(1);
        x.roll(0, 1);
        x.addPlayer();
        Check.due("square of the new one", x.player(1, 0), 0);
        Check.due("turns of the new one", x.player(1, 1), 0);
        Check.due("square of the old one", x.player(0, 0), 2);
        x.roll(1, 1);
        x.undo();
        x.undo();
        x.addPlayer();
        Check.due("square of one in place of another", x.player(1, 0), 0);
        Check.due("turns of one in place of another", x.player(1, 1), 0);
        Doc.says(11, "Undoable.");
        Bounds.undoable("the first one", () -> players(0), LadderMakers::addPlayer);
        Bounds.undoable("the last one", () -> players(3), LadderMakers::addPlayer);
        Doc.says(11, "Returns the number of the player.");
        for (int count = 0; count < 4; count++) {
            int number = count;
            Bounds.takes("behind " + count, () -> players(number), number, LadderMakers::addPlayer);
        }
        Doc.says(11, "Throws `IllegalStateException` if there are 4 players");
        Bounds.refuses("a fifth one", () -> players(4), Check.BAD_STATE, LadderMakers::addPlayer);
        LadderMakers full = players(4);
        full.undo();
        Check.answers("one that was taken back", 3, full::addPlayer);
        Check.fails("one more", Check.BAD_STATE, full::addPlayer);
    }

    private static void promise12() {
        Doc.says(12,
                "A player makes a turn: with the die of the order for this turn (each player's own"
                        + " turns are numbered from 0).");
        LadderMakers x = new LadderMakers();
        Makers.giveDie(x, 0, "1");
        Makers.giveDie(x, 1, "22");
        Makers.giveDie(x, 2, "333");
        x.order(0, 1, 2, 1);
        x.addPlayer();
        x.addPlayer();
        int[] sides = {1, 2, 3, 2, 1, 2, 3, 2, 1};
        int square = 0;
        for (int turn = 0; turn < sides.length; turn++) {
            int side = sides[turn];
            square += side;
            Check.fails("turn " + turn + " has no side more", Check.BAD_ARGUMENT,
                    () -> x.roll(0, side));
            Check.answers("the last side in turn " + turn, square, () -> x.roll(0, side - 1));
            Check.due("turns made", x.player(0, 1), turn + 1);
        }
        Check.fails("the first turn of another one", Check.BAD_ARGUMENT, () -> x.roll(1, 1));
        Check.answers("the first turn of another one", 1, () -> x.roll(1, 0));
        Doc.says(12, "Undoable.");
        Bounds.undoable("a turn", () -> players(4), y -> y.roll(3, 5));
        Bounds.undoable("a turn that goes nowhere", BoundaryPlayersAndTexts::nearTheGoal,
                y -> y.roll(0, 4));
        Doc.says(12, "`player`: the number of the player");
        Bounds.range("of one", () -> players(1), 0, 0, Check.NO_INDEX, (y, v) -> y.roll(v, 0));
        Bounds.range("of four", () -> players(4), 0, 3, Check.NO_INDEX, (y, v) -> y.roll(v, 0));
        Doc.says(12, "`side`: the side of this die that is rolled, from 0");
        for (int sidesOfDie = 1; sidesOfDie <= 6; sidesOfDie++) {
            String faces = "111111".substring(0, sidesOfDie);
            Bounds.range("side of " + sidesOfDie, () -> withDie(faces), 0, sidesOfDie - 1,
                    Check.BAD_ARGUMENT, (y, v) -> y.roll(0, v));
        }
        Doc.says(12, "Returns the square on which the player is then.");
        int[] squares = {1, 2, 8, 4, 5, 6};
        for (int i = 0; i < 6; i++) {
            int side = i;
            Bounds.takes("side " + i, () -> players(1), squares[i], y -> y.roll(0, side));
        }
        Bounds.takes("the goal", BoundaryPlayersAndTexts::nearTheGoal, 12, y -> y.roll(0, 3));
        Bounds.takes("beyond it", BoundaryPlayersAndTexts::nearTheGoal, 8, y -> y.roll(0, 4));
    }

    private static LadderMakers withDie(String faces) {
        LadderMakers x = players(1);
        Makers.giveDie(x, 0, faces);
        return x;
    }

    /** The player 0 is 4 squares before the goal. */
    private static LadderMakers nearTheGoal() {
        LadderMakers x = players(1);
        x.roll(0, 2);
        return x;
    }

    private static LadderMakers onTheGoal() {
        LadderMakers x = nearTheGoal();
        x.addPlayer();
        x.roll(0, 3);
        return x;
    }

    private static void promise12Refused() {
        Doc.says(12, "Throws `IndexOutOfBoundsException` if there is no such player");
        Bounds.refuses("no players", () -> players(0), Check.NO_INDEX, x -> x.roll(0, 0));
        Bounds.refuses("player 4 of 4", () -> players(4), Check.NO_INDEX, x -> x.roll(4, 0));
        Bounds.refuses("no player, no side", () -> players(2), Check.NO_INDEX, x -> x.roll(2, 6));
        Doc.says(12, "Throws `IllegalArgumentException` if the die has no such side");
        Bounds.refuses("side 6 of 6", () -> players(1), Check.BAD_ARGUMENT, x -> x.roll(0, 6));
        Bounds.refuses("side 1 of 1", () -> withDie("9"), Check.BAD_ARGUMENT, x -> x.roll(0, 1));
        Bounds.refuses("side -1", () -> withDie("9"), Check.BAD_ARGUMENT, x -> x.roll(0, -1));
        Bounds.refuses("no side, on the goal", BoundaryPlayersAndTexts::onTheGoal,
                Check.BAD_ARGUMENT, x -> x.roll(0, 6));
        Doc.says(12,
                "Throws `IllegalStateException` if the player is on the goal, or has made 1000"
                        + " turns");
        Bounds.refuses("on the goal", BoundaryPlayersAndTexts::onTheGoal, Check.BAD_STATE,
                x -> x.roll(0, 0));
        Bounds.takes("another one is on it", BoundaryPlayersAndTexts::onTheGoal, 1,
                x -> x.roll(1, 0));
        Bounds.takes("one square before it", () -> {
            LadderMakers x = nearTheGoal();
            x.roll(0, 2);
            return x;
        }, 12, x -> x.roll(0, 0));
    }

    /** So many turns need more calls than are promised; but there is no other way to make them. */
    private static void promise12ThousandTurns() {
        LadderMakers x = Makers.withBoardAndDie("8:1>0", "1");
        x.addPlayer();
        x.addPlayer();
        for (int turn = 0; turn < 1000; turn++) {
            Check.answers("turn " + turn, 0, () -> x.roll(0, 0));
        }
        long before = x.digest();
        Check.fails("turn 1000", Check.BAD_STATE, () -> x.roll(0, 0));
        Check.fails("turn 1000, no side", Check.BAD_ARGUMENT, () -> x.roll(0, 1));
        Check.due("nothing is changed", x.digest(), before);
        Check.answers("another one's turn 0", 0, () -> x.roll(1, 0));
        x.undo();
        x.undo();
        Check.answers("turn 999 again", 0, () -> x.roll(0, 0));
        Check.fails("turn 1000 again", Check.BAD_STATE, () -> x.roll(0, 0));
    }

    // ---- the buffer

    private static void promise13() {
        Doc.says(13, "Appends a character to the buffer.");
        LadderMakers x = typed("4");
        x.append('0');
        Check.answers("a board of both characters", 0, x::load);
        Check.due("its goal", x.count(0), 40);
        Check.due("no state is saved by append()", x.count(9), 1);
        Doc.says(13, "`code`: the character code, 33 to 126");
        Bounds.range("code", () -> typed("8"), 33, 126, Check.BAD_ARGUMENT,
                LadderMakers::append);
        Doc.says(13, "Returns the new length of the buffer.");
        LadderMakers y = new LadderMakers();
        for (int length = 1; length <= 60; length++) {
            Check.due("length", y.append(33 + length), length);
        }
        Doc.says(13, "Throws `IllegalArgumentException` if code is not 33 to 126");
        for (int code : new int[] {32, 127, 0, -1, 33 + 256, 33 + 65536, 160}) {
            Bounds.refuses("code " + code, () -> typed("8"), Check.BAD_ARGUMENT,
                    z -> z.append(code));
            Bounds.refuses("code " + code + " behind 60", () -> typed("8".repeat(60)),
                    Check.BAD_ARGUMENT, z -> z.append(code));
        }
        Doc.says(13, "Throws `IllegalStateException` if the buffer has 60 characters");
        Bounds.takes("behind 59", () -> typed("8".repeat(59)), 60, z -> z.append('8'));
        Bounds.refuses("behind 60", () -> typed("8".repeat(60)), Check.BAD_STATE,
                z -> z.append('8'));
        LadderMakers full = typed("8".repeat(60));
        full.clearBuffer();
        Check.answers("behind clearBuffer()", 1, () -> full.append('8'));
    }

    private static void promise14() {
        Doc.says(14, "Clears the buffer.");
        LadderMakers x = typed("8:1>2");
        x.clearBuffer();
        Check.fails("no board is left", Check.BAD_ARGUMENT, x::load);
        Check.answers("a new one begins", 1, () -> x.append('9'));
        Check.answers("and is loaded", 0, x::load);
        Check.due("its goal", x.count(0), 9);
        LadderMakers y = typed("8");
        y.clearBuffer();
        Check.due("no state is saved", y.count(9), 0);
        Check.due("the digest is as of an empty buffer", y.digest(), new LadderMakers().digest());
        Doc.says(14, "Returns the length that it had.");
        for (int length : new int[] {0, 1, 59, 60}) {
            Bounds.takes("length", () -> typed("~".repeat(length)), length,
                    LadderMakers::clearBuffer);
            Bounds.takes("length when it is cleared again", () -> typed("~".repeat(length)), length,
                    z -> z.clearBuffer() + z.clearBuffer());
        }
    }

    private static void firstError(String text, boolean isBoard, int due) {
        Bounds.takes("firstError(" + isBoard + ") of '" + text + "'", () -> typed(text), due,
                x -> x.firstError(isBoard));
        LadderMakers x = typed(text);
        x.firstError(isBoard);
        Check.isTrue("firstError(" + isBoard + ") of '" + text + "' changes nothing",
                Bounds.wholeOf(x).equals(Bounds.wholeOf(typed(text))));
    }

    private static void promise15() {
        Doc.says(15, "Finds the first syntax error of the buffer.");
        firstError("xx", true, 0);
        firstError("8xx", true, 1);
        firstError("8:1>2x3>x", true, 5);
        firstError("00", false, 0);
        firstError("1x2x", false, 1);
        firstError("12345678", false, 6);
        Doc.says(15,
                "Returns the index of the first character that is a syntax error; the length of the"
                        + " buffer if there is none.");
        firstError("", true, 0);
        firstError("", false, 0);
        firstError("8", true, 1);
        firstError("8:", true, 2);
        firstError("8:1>2,", true, 6);
        firstError("1", false, 1);
        firstError("123456", false, 6);
        firstError("1234567", false, 6);
        String most = "8:" + "1>2,".repeat(14);
        firstError(most, true, 58);
        firstError(most + "1>", true, 60);
        firstError(most + "1,", true, 59);
        firstError(most + ",1", true, 58);
        firstError("1".repeat(60), false, 6);
    }

    private static void promise15Kinds() {
        Doc.says(15, "`isBoard`: whether it is read as a board, otherwise as a die");
        String[] texts = {"8", "40", "41", "0", "7", "8:1>2", "10", "99", "199999"};
        int[] boards = {1, 2, 1, 0, 0, 5, 2, 1, 2};
        int[] dice = {1, 1, 2, 0, 1, 1, 1, 2, 6};
        for (int i = 0; i < texts.length; i++) {
            firstError(texts[i], true, boards[i]);
            firstError(texts[i], false, dice[i]);
        }
    }

    private static void promise16() {
        Doc.says(16, "Restores the latest saved state, and drops it.");
        LadderMakers x = new LadderMakers();
        x.set(2, 1);
        x.set(2, 2);
        x.undo();
        Check.due("the latest one", x.setting(2), 1);
        x.undo();
        Check.due("the one before", x.setting(2), 100);
        Check.due("none is left", x.count(9), 0);
        x.set(2, 3);
        Check.answers("a new one", 0, x::undo);
        Check.due("as it was", x.setting(2), 100);
        undoOfAll();
        Doc.says(16, "Returns how many saved states are left.");
        for (int saved = 1; saved <= 8; saved++) {
            int changes = saved;
            Bounds.takes("behind " + saved, () -> changed(changes), Math.min(saved, 6) - 1,
                    LadderMakers::undo);
        }
        Doc.says(16, "Throws `IllegalStateException` if there is none");
        Bounds.refuses("at first", LadderMakers::new, Check.BAD_STATE, LadderMakers::undo);
        Bounds.refuses("with a text", () -> typed("8"), Check.BAD_STATE, LadderMakers::undo);
        for (int saved : new int[] {1, 5, 6, 7, 12}) {
            Bounds.refuses("behind all of " + saved, () -> {
                LadderMakers y = changed(saved);
                while (y.count(9) > 0) {
                    y.undo();
                }
                return y;
            }, Check.BAD_STATE, LadderMakers::undo);
        }
    }

    private static LadderMakers changed(int changes) {
        LadderMakers x = new LadderMakers();
        for (int value = 0; value < changes; value++) {
            x.set(2, value);
        }
        return x;
    }

    /** One undo() brings back the board, the dice, the order, the settings, all players at once. */
    private static void undoOfAll() {
        LadderMakers x = Makers.withBoard("12:3>8,10>4");
        x.addPlayer();
        x.roll(0, 2);
        x.promise();
        Makers.type(x, "8:1>0,2>0,3>0");
        x.release();
        long before = x.digest();
        x.load();
        Makers.type(x, "8:1>0,2>0,3>0");
        Check.answers("undo of load()", 5, x::undo);
        Check.due("all is as it was", x.digest(), before);
        Check.due("the player's square", x.player(0, 0), 8);
        Check.answers("undo of release()", 4, x::undo);
        Check.due("the promise", x.count(7), 1);
        Check.fails("it is kept", Check.BAD_STATE, x::load);
        Check.answers("undo of promise()", 3, x::undo);
        Check.due("no promise", x.count(8), NONE);
        Check.answers("load() then", 3, x::load);
    }
}
