/** Promises 13 to 16: texts and undo. */
public final class TextTests {
    private static final int NONE = LadderMakers.NONE;

    public static void main(String[] args) {
        promise13Append();
        promise14ClearBuffer();
        promise15FirstErrorOfBoard();
        promise15ErrorAtAnEnd();
        promise15FirstErrorOfDie();
        promise15AllShortTexts();
        promise16Undo();
        promise16SixStates();
        promise16EachUndoable();
        Check.end();
    }

    private static void promise13Append() {
        LadderMakers x = new LadderMakers();
        for (int code : new int[] {32, 127, 0, -1, Integer.MIN_VALUE, Integer.MAX_VALUE}) {
            Check.failsUnchanged(x, "append(" + code + ")", Check.BAD_ARGUMENT, () -> x.append(code));
        }
        Check.due("append(33)", x.append(33), 1);
        Check.due("append(126)", x.append(126), 2);
        Check.due("no saved state", x.count(9), 0);
        for (int length = 3; length <= 60; length++) {
            Check.due("append", x.append('1'), length);
        }
        Check.failsUnchanged(x, "character 61", Check.BAD_STATE, () -> x.append('1'));
        Check.failsUnchanged(x, "wrong character 61", Check.BAD_ARGUMENT, () -> x.append(32));
        Check.due("length", x.clearBuffer(), 60);
    }

    private static void promise14ClearBuffer() {
        LadderMakers x = new LadderMakers();
        Check.due("empty", x.clearBuffer(), 0);
        Makers.type(x, "8:1>2");
        Check.due("length", x.clearBuffer(), 5);
        Check.due("cleared", x.clearBuffer(), 0);
        Check.due("no saved state", x.count(9), 0);
        Makers.type(x, "9");
        Check.due("new text", x.load(), 0);
        Check.due("of the new characters", x.count(0), 9);
    }

    private static void board(String text, int error) {
        LadderMakers x = new LadderMakers();
        Makers.type(x, text);
        long before = x.digest();
        Check.due("first error of the board '" + text + "'", x.firstError(true), error);
        Check.due("nothing is changed", x.digest(), before);
    }

    private static void die(String text, int error) {
        LadderMakers x = new LadderMakers();
        Makers.type(x, text);
        long before = x.digest();
        Check.due("first error of the die '" + text + "'", x.firstError(false), error);
        Check.due("nothing is changed", x.digest(), before);
    }

    private static void promise15FirstErrorOfBoard() {
        board("", 0);
        board("8", 1);
        board("12:3>8,10>4", 11);
        board("40:0>0,40>40,39>5,4>0", 21);
        board("0", 0);
        board("5", 0);
        board("6", 0);
        board("7", 0);
        board("1", 1);
        board("10", 2);
        board("100", 2);
        board("41", 1);
        board("80", 1);
        board("98", 1);
        board("1:", 1);
        board("4:", 1);
        board(":", 0);
        board("8>", 1);
        board("8,", 1);
        board("8::", 2);
        board("8:>", 2);
        board("8:,", 2);
        board("8:00", 3);
        board("8:01", 3);
        board("8:41", 3);
        board("8:50", 3);
        board("8:400", 4);
        board("8:1,", 3);
        board("8:1:", 3);
        board("8:1>>", 4);
        board("8:1>,", 4);
        board("8:1>2>", 5);
        board("8:1>2:", 5);
        board("8:1>2,,", 6);
        board("8:1>02", 5);
        board("8:1>41", 5);
        board("8:1>400", 6);
        board("8:0>40,0>40", 11);
        board("8!", 1);
        board("!", 0);
        board("8:1>2~", 5);
        board("8:1>2,1>2,1>2,1>2,1>2,1>2,1>2,1>2,1>2,1>2,1>2,1>2,1>2,1>2,1>", 60);
    }

    /** Each character behind a text that is complete or not, against the texts that go on. */
    private static void promise15ErrorAtAnEnd() {
        String[] begun = {"", "1", "4", "8", "20", "8:", "8:0", "8:1", "8:4", "8:40", "8:5", "8:1>",
            "8:1>0", "8:1>3", "8:1>4", "8:1>40", "8:1>9", "8:1>2,"};
        String[] goOn = {"123489", "0123456789", "0", ":", ":", "0123456789", ">", "0123456789>",
            "0>", ">", ">", "0123456789", ",", "0123456789,", "0,", ",", ",", "0123456789"};
        for (int i = 0; i < begun.length; i++) {
            for (char c = 33; c <= 126; c++) {
                int length = begun[i].length();
                board(begun[i] + c, goOn[i].indexOf(c) >= 0 ? length + 1 : length);
            }
        }
    }

    private static void promise15FirstErrorOfDie() {
        die("", 0);
        die("1", 1);
        die("999999", 6);
        die("1234567", 6);
        die("0", 0);
        die("1230", 3);
        die("12:", 2);
        die("12/", 2);
        die("a", 0);
        die("1234567890", 6);
        die("1!3", 1);
    }

    /** All texts of four of these characters, against the boards there are, by their beginnings. */
    private static void promise15AllShortTexts() {
        String signs = "0148:>,";
        for (int code = 0; code < 7 * 7 * 7 * 7; code++) {
            String text = "" + signs.charAt(code / 343) + signs.charAt(code / 49 % 7)
                    + signs.charAt(code / 7 % 7) + signs.charAt(code % 7);
            int error = 0;
            while (error < 4 && begins(text.substring(0, error + 1))) {
                error++;
            }
            LadderMakers x = new LadderMakers();
            Makers.type(x, text);
            Check.due("first error of '" + text + "'", x.firstError(true), error);
        }
    }

    private static boolean begins(String text) {
        String goal = "([89]|[123][0-9]|40)";
        String square = "([0-9]|[123][0-9]|40)";
        String links = "(" + square + ">" + square + ",)*";
        String[] ends = {"[1-4]?", goal, goal + ":" + links + square + "?",
            goal + ":" + links + square + ">" + square + "?"};
        for (String end : ends) {
            if (text.matches(end)) {
                return true;
            }
        }
        return false;
    }

    private static void promise16Undo() {
        LadderMakers x = new LadderMakers();
        Check.failsUnchanged(x, "nothing to undo", Check.BAD_STATE, x::undo);
        x.link(3, 8);
        x.link(4, 9);
        long before = x.digest();
        x.link(5, 10);
        Makers.type(x, "12");
        Check.due("undo", x.undo(), 2);
        Check.due("the buffer stays", x.clearBuffer(), 2);
        Check.due("the state is as it was", x.digest(), before);
        Check.due("undo", x.undo(), 1);
        Check.due("undo", x.undo(), 0);
        Check.due("no links", x.count(1), 0);
        Check.fails("no state is left", Check.BAD_STATE, x::undo);
        Check.fails("a call that throws", Check.BAD_ARGUMENT, () -> x.link(0, 3));
        Check.due("saves no state", x.count(9), 0);
    }

    private static void promise16SixStates() {
        LadderMakers x = new LadderMakers();
        for (int value = 1; value <= 9; value++) {
            x.set(2, value);
            Check.due("saved states", x.count(9), Math.min(value, 6));
        }
        for (int left = 5; left >= 0; left--) {
            Check.due("undo", x.undo(), left);
            Check.due("setting", x.setting(2), left + 3);
        }
        Check.fails("the oldest ones were dropped", Check.BAD_STATE, x::undo);
        x.set(2, 77);
        x.set(2, 78);
        Check.due("undo", x.undo(), 1);
        Check.due("undone", x.setting(2), 77);
        Check.due("undo", x.undo(), 0);
        Check.due("undone", x.setting(2), 3);
    }

    /** Each undoable call, on the same object, brings back the same digest when it is undone. */
    private static void promise16EachUndoable() {
        LadderMakers x = Makers.withBoard("12:3>8,10>4");
        x.addPlayer();
        x.roll(0, 0);
        Makers.type(x, "9");
        Check.Call[] calls = {x::load, () -> x.die(0), () -> x.die(1),
            () -> x.order(1, 2, 0, NONE), () -> x.link(5, 6), () -> x.unlink(1),
            () -> x.shift(0, 2), () -> x.set(0, 2), () -> x.set(1, 2), () -> x.set(2, 0), x::promise,
            x::release, x::addPlayer, () -> x.roll(0, 4), () -> x.set(0, 0), () -> x.shift(0, 3),
            () -> x.order(0, NONE, NONE, NONE)};
        long before = x.digest();
        for (int i = 0; i < calls.length; i++) {
            calls[i].run();
            Check.due("saved states", x.count(9), 4);
            x.clearBuffer();
            Makers.type(x, "9");
            Check.due("undo", x.undo(), 3);
            Check.due("digest behind undoing call " + i, x.digest(), before);
        }
    }
}
