/** The boundary cases that the document names in the promises 1 to 10. */
final class BoundaryEdits {
    private static final int NONE = LadderMakers.NONE;
    private static final String TEN = "20:1>0,2>0,3>0,4>0,5>0,6>0,7>0,8>0,9>0,10>0";

    private BoundaryEdits() {
    }

    static void run() {
        promise01();
        promise02Takes();
        promise02Incomplete();
        promise02NotAllowed();
        promise03();
        promise03Refused();
        promise04();
        promise04Refused();
        promise05();
        promise05Refused();
        promise06();
        promise07();
        promise07Refused();
        promise08();
        promise09();
        promise10();
    }

    private static LadderMakers typed(String text) {
        LadderMakers x = new LadderMakers();
        Makers.type(x, text);
        return x;
    }

    /** A board on which one of two players has rolled, and a text in the buffer. */
    private static LadderMakers played(String board, String text) {
        LadderMakers x = Makers.withBoard(board);
        x.addPlayer();
        x.addPlayer();
        x.roll(1, 1);
        Makers.type(x, text);
        return x;
    }

    /** A board of one die "1" and the horizon 8, whose mean is promised. */
    private static LadderMakers kept(String board, int tolerance) {
        LadderMakers x = Makers.withBoardAndDie(board, "1");
        x.set(1, 8);
        x.set(2, tolerance);
        x.promise();
        return x;
    }

    private static LadderMakers keptAndTyped(String text) {
        LadderMakers x = kept("12:3>8", 5000);
        Makers.type(x, text);
        return x;
    }

    private static void promise01() {
        Doc.says(1, "Creates a board without links and players, and with an empty buffer.");
        Bounds.Maker fresh = LadderMakers::new;
        Bounds.takes("links", fresh, 0, x -> x.count(1));
        Bounds.takes("players", fresh, 0, x -> x.count(4));
        Bounds.takes("a link's number", fresh, 0, x -> x.link(1, 2));
        Bounds.takes("a player's number", fresh, 0, LadderMakers::addPlayer);
        Bounds.takes("the length of the buffer", fresh, 0, LadderMakers::clearBuffer);
        Bounds.takes("the length behind a character", fresh, 1, x -> x.append('8'));
        Bounds.refuses("a link", fresh, Check.NO_INDEX, x -> x.linkOf(0, 0));
        Bounds.refuses("a player", fresh, Check.NO_INDEX, x -> x.player(0, 0));
        Bounds.refuses("a board", fresh, Check.BAD_ARGUMENT, LadderMakers::load);
        Bounds.refuses("a saved state", fresh, Check.BAD_STATE, LadderMakers::undo);
        for (int square = 0; square <= 20; square++) {
            int s = square;
            Bounds.takes("links from " + s, fresh, NONE, x -> x.square(s, 0));
            Bounds.takes("links to " + s, fresh, 0, x -> x.square(s, 1));
        }
    }

    // ---- load

    private static void promise02Takes() {
        Doc.says(2,
                "Takes the board in the buffer in place of the one that there is, and clears the"
                        + " buffer; all players stand on 0, and have made no turns.");
        LadderMakers x = new LadderMakers();
        x.link(8, 3);
        for (int player = 0; player < 4; player++) {
            x.addPlayer();
            for (int turn = 0; turn <= player; turn++) {
                x.roll(player, 5);
            }
        }
        Makers.type(x, "18:3>8");
        Check.answers("a link that the old board does not allow", 1, x::load);
        for (int player = 0; player < 4; player++) {
            Check.due("square of " + player, x.player(player, 0), 0);
            Check.due("turns of " + player, x.player(player, 1), 0);
        }
        Check.due("players", x.count(4), 4);
        Check.due("the goal", x.count(0), 18);
        Check.due("the old link", x.square(8, 0), NONE);
        Check.due("the buffer", x.clearBuffer(), 0);
        Bounds.refuses("a second load()", () -> {
            LadderMakers y = typed("8");
            y.load();
            return y;
        }, Check.BAD_ARGUMENT, LadderMakers::load);
        Doc.says(2, "Undoable.");
        Bounds.undoable("the least board", () -> played("12:3>8", "8"), LadderMakers::load);
        Bounds.undoable("the same board", () -> played("12:3>8", "12:3>8"), LadderMakers::load);
        Doc.says(2, "Returns how many links it has.");
        Bounds.takes("none", () -> played("12:3>8", "8"), 0, LadderMakers::load);
        Bounds.takes("one", () -> played("12:3>8", "8:1>0"), 1, LadderMakers::load);
        Bounds.takes("ten", () -> played("12:3>8", TEN), 10, LadderMakers::load);
    }

    private static void promise02Incomplete() {
        Doc.says(2, "Throws `IllegalArgumentException` if the buffer is not a complete board");
        String[] complete = {"8", "9", "10", "39", "40", "8:1>2", "8:1>2,3>4", "8:0>40"};
        for (String text : complete) {
            for (int length = 1; length < text.length(); length++) {
                String begun = text.substring(0, length);
                if (!begun.matches("\\d+(:\\d+>\\d+)?") || begun.matches("[1-4]")) {
                    Bounds.refuses("'" + begun + "'", () -> played("12:3>8", begun),
                            Check.BAD_ARGUMENT, LadderMakers::load);
                }
            }
        }
        String[] wrong = {"", "0", "7", "41", "08", "8:", "8x", "8:1>2x", "8:1>41", "8:41>1", "8:1>00",
            "8:1>2,1", "8:1>2,1>", "8>1", "123456"};
        for (String text : wrong) {
            Bounds.refuses("'" + text + "'", () -> played("12:3>8", text), Check.BAD_ARGUMENT,
                    LadderMakers::load);
        }
        Bounds.refuses("incomplete, with a promise", () -> keptAndTyped("8:"), Check.BAD_ARGUMENT,
                LadderMakers::load);
    }

    private static void promise02NotAllowed() {
        Doc.says(2,
                "Throws `IllegalStateException` if there is a promise, there are more than 10 links,"
                        + " or a link is not allowed (behind those ahead of it; one from or to a"
                        + " square beyond the goal, or to the square at which it begins, is not)");
        String[] allowed = {"8:1>0", "8:1>8", "8:7>0", "8:7>8", "8:1>2", "8:2>1", "8:1>3,2>3",
            "8:3>1,2>1", TEN, "40:39>40", "12:8>3"};
        String[] notAllowed = {"8:0>1", "8:8>1", "8:9>1", "8:40>1", "8:1>9", "8:1>40", "8:1>1",
            "8:0>0", "8:8>8", "8:0>8", "8:8>0", "8:9>9", "8:1>2,1>3", "8:1>2,2>3", "8:2>3,1>2",
            "8:1>2,2>1", "8:1>2,1>2", TEN + ",11>0", TEN + ",10>0", "40:40>39", "39:1>40"};
        for (String text : allowed) {
            int links = text.equals(TEN) ? 10 : text.split(">").length - 1;
            Bounds.takes(text, () -> played("12:3>8", text), links, LadderMakers::load);
        }
        for (String text : notAllowed) {
            Bounds.refuses(text, () -> played("12:3>8", text), Check.BAD_STATE, LadderMakers::load);
        }
        Bounds.refuses("with a promise", () -> keptAndTyped("12:3>8"), Check.BAD_STATE,
                LadderMakers::load);
        Bounds.takes("without one", () -> {
            LadderMakers x = keptAndTyped("12:3>8");
            x.release();
            return x;
        }, 1, LadderMakers::load);
    }

    // ---- die

    private static void promise03() {
        Doc.says(3, "Gives a die the faces in the buffer, and clears the buffer.");
        LadderMakers x = typed("9");
        Check.answers("one face", 1, () -> x.die(1));
        Check.due("the buffer", x.clearBuffer(), 0);
        Check.due("the face", x.face(1, 0), 9);
        Check.due("no second side", x.face(1, 1), NONE);
        Check.due("the dice beside it", 10 * x.face(0, 5) + x.face(2, 5), 66);
        Makers.type(x, "191919");
        Check.answers("six faces", 6, () -> x.die(1));
        for (int side = 0; side < 6; side++) {
            Check.due("face " + side, x.face(1, side), side % 2 == 0 ? 1 : 9);
        }
        Check.fails("the buffer is empty then", Check.BAD_ARGUMENT, () -> x.die(1));
        Doc.says(3, "Undoable.");
        Bounds.undoable("one face", () -> played("12:3>8", "9"), y -> y.die(0));
        Bounds.undoable("the same faces", () -> played("12:3>8", "123456"), y -> y.die(0));
        Doc.says(3, "`die`: 0 to 2");
        Bounds.range("die", () -> played("12:3>8", "1"), 0, 2, Check.NO_INDEX, (y, v) -> y.die(v));
        Doc.says(3, "Returns how many sides it has.");
        for (int sides = 1; sides <= 6; sides++) {
            String text = "7".repeat(sides);
            Bounds.takes("sides", () -> typed(text), sides, y -> y.die(2));
        }
    }

    private static void promise03Refused() {
        Doc.says(3, "Throws `IndexOutOfBoundsException` if there is no such die");
        for (int die : new int[] {-1, 3, 6}) {
            Bounds.refuses("die " + die, () -> typed("1"), Check.NO_INDEX, x -> x.die(die));
            Bounds.refuses("die " + die + ", no text", LadderMakers::new, Check.NO_INDEX,
                    x -> x.die(die));
            Bounds.refuses("die " + die + ", a promise", () -> keptAndTyped("9"), Check.NO_INDEX,
                    x -> x.die(die));
        }
        Doc.says(3, "Throws `IllegalArgumentException` if the buffer is not a complete die");
        String[] wrong = {"", "0", "1234567", "12345:", "123450", "012345", "1/", "a", "1~", "1,2"};
        for (String text : wrong) {
            Bounds.refuses("'" + text + "'", () -> played("12:3>8", text), Check.BAD_ARGUMENT,
                    x -> x.die(0));
            Bounds.refuses("'" + text + "' with a promise", () -> keptAndTyped(text),
                    Check.BAD_ARGUMENT, x -> x.die(0));
        }
        Doc.says(3, "An edit.");
        // From 0 of 8 squares: 8 turns by ones, 4 by twos, 3 by threes (the last one is by a 2).
        Bounds.takes("4 turns less", () -> keptOnEight("2", 4000), 1, x -> x.die(0));
        Doc.says(3, "Throws `IllegalStateException` if the promise would not be kept");
        Bounds.refuses("4 turns less", () -> keptOnEight("2", 3999), Check.BAD_STATE, x -> x.die(0));
        Bounds.takes("a die that is not in the order", () -> keptOnEight("2", 0), 1, x -> x.die(1));
        Bounds.takes("the same face twice", () -> keptOnEight("11", 0), 2, x -> x.die(0));
        Bounds.refuses("half of the rolls by another face", () -> keptOnEight("12", 0),
                Check.BAD_STATE, x -> x.die(0));
    }

    private static LadderMakers keptOnEight(String text, int tolerance) {
        LadderMakers x = kept("8", tolerance);
        Makers.type(x, text);
        return x;
    }

    // ---- order

    private static void promise04() {
        Doc.says(4, "Changes the order of dice.");
        LadderMakers x = new LadderMakers();
        x.order(2, 1, 0, 2);
        int[] four = {2, 1, 0, 2};
        for (int place = 0; place < 4; place++) {
            Check.due("die " + place, x.count(10 + place), four[place]);
        }
        x.order(1, NONE, NONE, NONE);
        int[] one = {1, NONE, NONE, NONE};
        for (int place = 0; place < 4; place++) {
            Check.due("die " + place + " behind a shorter one", x.count(10 + place), one[place]);
        }
        Doc.says(4, "Undoable.");
        Bounds.undoable("the longest", () -> played("12:3>8", "8"), y -> y.order(2, 2, 2, 2));
        Bounds.undoable("the same", () -> played("12:3>8", "8"), y -> y.order(0, NONE, NONE, NONE));
        Bounds.Maker maker = () -> played("12:3>8", "8");
        Doc.says(4, "`first`: 0 to 2");
        Bounds.range("first", maker, 0, 2, Check.BAD_ARGUMENT, (y, v) -> y.order(v, 0, 0, 0));
        Bounds.range("first", maker, 0, 2, Check.BAD_ARGUMENT,
                (y, v) -> y.order(v, NONE, NONE, NONE));
        Doc.says(4, "`second`: 0 to 2, or NONE");
        Bounds.range("second", maker, NONE, 2, Check.BAD_ARGUMENT,
                (y, v) -> y.order(0, v, NONE, NONE));
        Doc.says(4, "`third`: 0 to 2, or NONE");
        Bounds.range("third", maker, NONE, 2, Check.BAD_ARGUMENT, (y, v) -> y.order(0, 0, v, NONE));
        Doc.says(4, "`fourth`: 0 to 2, or NONE");
        Bounds.range("fourth", maker, NONE, 2, Check.BAD_ARGUMENT, (y, v) -> y.order(0, 0, 0, v));
        Doc.says(4, "Returns how many dice the order has.");
        Bounds.takes("one", maker, 1, y -> y.order(2, NONE, NONE, NONE));
        Bounds.takes("two", maker, 2, y -> y.order(2, 0, NONE, NONE));
        Bounds.takes("three", maker, 3, y -> y.order(2, 2, 2, NONE));
        Bounds.takes("four", maker, 4, y -> y.order(2, 1, 0, 0));
    }

    private static void promise04Refused() {
        Doc.says(4,
                "Throws `IllegalArgumentException` if an argument is out of range, or a number comes"
                        + " behind NONE");
        Bounds.Maker maker = () -> played("12:3>8", "8");
        for (int bits = 0; bits < 16; bits++) {
            int[] dice = new int[4];
            for (int place = 0; place < 4; place++) {
                dice[place] = (bits >> place & 1) == 1 ? 1 : NONE;
            }
            // Only with 1, 3, 7 and 15 are the numbers the first ones.
            int length = bits == 1 ? 1 : bits == 3 ? 2 : bits == 7 ? 3 : bits == 15 ? 4 : 0;
            Bounds.Use use = x -> x.order(dice[0], dice[1], dice[2], dice[3]);
            if (length > 0) {
                Bounds.takes("pattern " + bits, maker, length, use);
            } else {
                Bounds.refuses("pattern " + bits, maker, Check.BAD_ARGUMENT, use);
            }
        }
        Bounds.refuses("out of range, with a promise", () -> kept("12:3>8", 0), Check.BAD_ARGUMENT,
                x -> x.order(0, 3, NONE, NONE));
        Doc.says(4, "Throws `IllegalStateException` if there is a promise");
        Bounds.refuses("another order", () -> kept("12:3>8", 5000), Check.BAD_STATE,
                x -> x.order(1, 2, NONE, NONE));
        Bounds.refuses("the same order", () -> kept("12:3>8", 5000), Check.BAD_STATE,
                x -> x.order(0, NONE, NONE, NONE));
    }

    // ---- link

    private static void promise05() {
        Doc.says(5, "Adds a link.");
        LadderMakers x = Makers.withBoard("8");
        x.link(1, 8);
        x.link(7, 0);
        Check.due("links", x.count(1), 2);
        Check.due("the first one", 10 * x.linkOf(0, 0) + x.linkOf(0, 1), 18);
        Check.due("the second one", 10 * x.linkOf(1, 0) + x.linkOf(1, 1), 70);
        Doc.says(5, "(Players stay where they are.)");
        LadderMakers y = played("12:3>8", "");
        y.link(5, 2);
        Check.due("a player on its end", y.player(1, 0), 2);
        y.unlink(1);
        y.link(2, 12);
        Check.due("a player on its beginning", y.player(1, 0), 2);
        Check.due("the turns of this player", y.player(1, 1), 1);
        Doc.says(5, "Undoable.");
        Bounds.undoable("link()", () -> played("12:3>8", "8"), z -> z.link(11, 0));
        Doc.says(5, "`from`: a square");
        Bounds.Maker twelve = () -> Makers.withBoard("12:3>8");
        for (int from : new int[] {1, 11}) {
            Bounds.takes("from " + from, twelve, 1, z -> z.link(from, 4));
        }
        for (int from : new int[] {0, 12}) {
            Bounds.refuses("a square, but no beginning: " + from, twelve, Check.BAD_ARGUMENT,
                    z -> z.link(from, 4));
        }
        for (int from : new int[] {-1, 13, Integer.MIN_VALUE, Integer.MAX_VALUE}) {
            Bounds.refuses("from " + from, twelve, Check.NO_INDEX, z -> z.link(from, 4));
        }
        Doc.says(5, "`to`: a square");
        Bounds.range("to", twelve, 0, 12, Check.NO_INDEX, (z, v) -> z.link(5, v));
        Doc.says(5, "Returns its number.");
        LadderMakers many = new LadderMakers();
        for (int from = 1; from <= 10; from++) {
            Check.due("link from " + from, many.link(from, 0), from - 1);
        }
    }

    private static void promise05Refused() {
        Doc.says(5, "Throws `IndexOutOfBoundsException` if there is no such square");
        Bounds.Maker small = () -> Makers.withBoard("8:3>6");
        int[][] outside = {{-1, 1}, {9, 1}, {1, -1}, {1, 9}, {9, 9}, {-1, -1}, {0, 9}, {3, 9}, {9, 3}};
        for (int[] link : outside) {
            Bounds.refuses(link[0] + ">" + link[1], small, Check.NO_INDEX,
                    x -> x.link(link[0], link[1]));
        }
        Doc.says(5,
                "Throws `IllegalArgumentException` if the link is not allowed, or both squares are"
                        + " the same");
        int[][] notAllowed = {{0, 1}, {8, 1}, {3, 1}, {3, 6}, {6, 1}, {6, 3}, {1, 3}, {1, 1}, {0, 0},
            {8, 8}, {7, 7}};
        for (int[] link : notAllowed) {
            Bounds.refuses(link[0] + ">" + link[1], small, Check.BAD_ARGUMENT,
                    x -> x.link(link[0], link[1]));
        }
        Bounds.takes("to where one ends", small, 1, x -> x.link(1, 6));
        Doc.says(5, "An edit.");
        Bounds.takes("a turn less", () -> kept("8", 1000), 0, x -> x.link(1, 2));
        Doc.says(5,
                "Throws `IllegalStateException` if there are 10 links, or the promise would not be"
                        + " kept");
        Bounds.refuses("a turn less", () -> kept("8", 999), Check.BAD_STATE, x -> x.link(1, 2));
        Bounds.refuses("two turns less", () -> kept("8", 1000), Check.BAD_STATE, x -> x.link(1, 3));
        Bounds.takes("a tenth link", () -> Makers.withBoard(TEN.replace(",10>0", "")), 9,
                x -> x.link(19, 20));
        Bounds.refuses("an eleventh link", () -> Makers.withBoard(TEN), Check.BAD_STATE,
                x -> x.link(19, 20));
        Bounds.refuses("an eleventh link, with a promise", () -> kept(TEN, 5000), Check.BAD_STATE,
                x -> x.link(19, 20));
        Bounds.takes("a tenth link, with a promise", () -> kept(TEN.replace(",10>0", ""), 0), 9,
                x -> x.link(19, 20));
    }

    // ---- unlink

    private static void promise06() {
        Doc.says(6, "Takes a link away.");
        LadderMakers x = Makers.withBoard(TEN);
        x.unlink(9);
        Check.due("the last one of ten", x.square(10, 0), NONE);
        x.unlink(0);
        Check.due("the first one", x.square(1, 0), NONE);
        Check.due("those between them", x.count(1), 8);
        Check.answers("there is a place again", 8, () -> x.link(11, 12));
        Check.answers("and one more", 9, () -> x.link(1, 12));
        Check.fails("but no other one", Check.BAD_STATE, () -> x.link(10, 12));
        Doc.says(6, "Undoable.");
        Bounds.undoable("the only link", () -> played("12:3>8", "8"), y -> y.unlink(0));
        Doc.says(6, "`link`: its number");
        Bounds.range("of one link", () -> played("12:3>8", "8"), 0, 0, Check.NO_INDEX,
                (y, v) -> y.unlink(v));
        Bounds.range("of ten links", () -> Makers.withBoard(TEN), 0, 9, Check.NO_INDEX,
                (y, v) -> y.unlink(v));
        Doc.says(6, "Returns how many links are left.");
        LadderMakers ten = Makers.withBoard(TEN);
        for (int left = 9; left >= 0; left--) {
            Check.due("left", ten.unlink(left / 2), left);
        }
        Doc.says(6, "Throws `IndexOutOfBoundsException` if there is no such link");
        Check.fails("none is left", Check.NO_INDEX, () -> ten.unlink(0));
        Bounds.refuses("no link at all", LadderMakers::new, Check.NO_INDEX, y -> y.unlink(0));
        Bounds.refuses("no link, with a promise", () -> kept("8:1>2", 0), Check.NO_INDEX,
                y -> y.unlink(1));
        Doc.says(6, "An edit.");
        Bounds.takes("a turn more", () -> kept("8:1>2", 1000), 0, y -> y.unlink(0));
        Doc.says(6, "Throws `IllegalStateException` if the promise would not be kept");
        Bounds.refuses("a turn more", () -> kept("8:1>2", 999), Check.BAD_STATE, y -> y.unlink(0));
        Bounds.refuses("two turns more", () -> kept("8:1>3", 1000), Check.BAD_STATE,
                y -> y.unlink(0));
    }

    // ---- shift

    private static void promise07() {
        Doc.says(7, "Moves the beginning of a link; its end and its number stay.");
        LadderMakers x = Makers.withBoard("12:3>8,10>4,6>0");
        x.shift(1, 11);
        int[] begins = {3, 11, 6};
        int[] ends = {8, 4, 0};
        for (int link = 0; link < 3; link++) {
            Check.due("beginning of " + link, x.linkOf(link, 0), begins[link]);
            Check.due("end of " + link, x.linkOf(link, 1), ends[link]);
        }
        Check.due("no link is where it was", x.square(10, 0), NONE);
        Doc.says(7, "Undoable.");
        Bounds.undoable("shift()", () -> played("12:3>8", "8"), y -> y.shift(0, 11));
        Bounds.undoable("to the same square", () -> played("12:3>8", "8"), y -> y.shift(0, 3));
        Doc.says(7, "`link`: its number");
        Bounds.range("of two links", () -> played("12:3>8,10>4", "8"), 0, 1, Check.NO_INDEX,
                (y, v) -> y.shift(v, 5));
        Bounds.range("of ten links", () -> Makers.withBoard(TEN), 0, 9, Check.NO_INDEX,
                (y, v) -> y.shift(v, 11));
        Doc.says(7,
                "`from`: the square at which it begins then (it may be the one at which it begins"
                        + " now)");
        Bounds.takes("where it begins", () -> Makers.withBoard("12:3>8,10>4"), 10,
                y -> y.shift(1, 10));
        Bounds.takes("the least square", () -> Makers.withBoard("12:3>8,10>4"), 3,
                y -> y.shift(0, 1));
        Bounds.takes("the greatest square", () -> Makers.withBoard("12:3>8,10>4"), 3,
                y -> y.shift(0, 11));
        Doc.says(7, "Returns the square at which it began.");
        LadderMakers z = Makers.withBoard("12:3>8");
        Check.due("at first", z.shift(0, 1), 3);
        Check.due("then", z.shift(0, 11), 1);
        Check.due("at last", z.shift(0, 11), 11);
    }

    private static void promise07Refused() {
        Bounds.Maker two = () -> Makers.withBoard("12:3>8,10>4");
        Doc.says(7, "Throws `IndexOutOfBoundsException` if there is no such link or square");
        int[][] outside = {{-1, 5}, {2, 5}, {0, -1}, {0, 13}, {2, 13}, {2, 0}, {2, 8}};
        for (int[] shift : outside) {
            Bounds.refuses("shift(" + shift[0] + ", " + shift[1] + ")", two, Check.NO_INDEX,
                    x -> x.shift(shift[0], shift[1]));
        }
        Bounds.refuses("no links", LadderMakers::new, Check.NO_INDEX, x -> x.shift(0, 1));
        Doc.says(7,
                "Throws `IllegalArgumentException` if the link would not be allowed, or begin where"
                        + " it ends");
        int[][] notAllowed = {{0, 0}, {0, 12}, {0, 8}, {0, 10}, {0, 4}, {1, 4}, {1, 3}, {1, 8}};
        for (int[] shift : notAllowed) {
            Bounds.refuses("shift(" + shift[0] + ", " + shift[1] + ")", two, Check.BAD_ARGUMENT,
                    x -> x.shift(shift[0], shift[1]));
        }
        Bounds.refuses("where it ends with another one", () -> Makers.withBoard("12:3>8,10>8"),
                Check.BAD_ARGUMENT, x -> x.shift(0, 8));
        Bounds.refuses("to 0, where it ends", () -> Makers.withBoard("12:3>0"), Check.BAD_ARGUMENT,
                x -> x.shift(0, 0));
        for (int from : new int[] {1, 2, 3, 5, 6, 7, 9, 11}) {
            Bounds.takes("shift(0, " + from + ")", two, 3, x -> x.shift(0, from));
        }
        Doc.says(7, "An edit.");
        Bounds.takes("a turn more", () -> kept("8:1>3", 1000), 1, x -> x.shift(0, 2));
        Bounds.takes("to the same square", () -> kept("8:1>3", 0), 1, x -> x.shift(0, 1));
        Doc.says(7, "Throws `IllegalStateException` if the promise would not be kept");
        Bounds.refuses("a turn more", () -> kept("8:1>3", 999), Check.BAD_STATE, x -> x.shift(0, 2));
        Bounds.refuses("a turn less", () -> kept("8:2>3", 0), Check.BAD_STATE, x -> x.shift(0, 1));
        Bounds.refuses("a snake of it, a turn more", () -> kept("12:3>8", 999), Check.BAD_STATE,
                x -> x.shift(0, 9));
        Bounds.takes("a snake of it, a turn more", () -> kept("12:3>8", 1000), 3,
                x -> x.shift(0, 9));
    }

    // ---- set

    private static void promise08() {
        Doc.says(8, "Changes a setting.");
        int[] least = {0, 1, 0};
        int[] most = {2, 8, 5000};
        int[] first = {0, 6, 100};
        for (int setting = 0; setting < 3; setting++) {
            for (int value : new int[] {least[setting], most[setting]}) {
                LadderMakers x = new LadderMakers();
                x.set(setting, value);
                for (int other = 0; other < 3; other++) {
                    Check.due("setting " + other, x.setting(other),
                            other == setting ? value : first[other]);
                }
            }
        }
        Doc.says(8, "Undoable.");
        Bounds.undoable("the most", () -> played("12:3>8", "8"), x -> x.set(1, 8));
        Bounds.undoable("the same value", () -> played("12:3>8", "8"), x -> x.set(0, 0));
        Doc.says(8, "`setting`: 0 to 2");
        Bounds.range("setting", () -> played("12:3>8", "8"), 0, 2, Check.NO_INDEX,
                (x, v) -> x.set(v, 1));
        Doc.says(8, "`value`: the new value");
        Bounds.range("setting 0", LadderMakers::new, 0, 2, Check.BAD_ARGUMENT, (x, v) -> x.set(0, v));
        Bounds.range("setting 1", LadderMakers::new, 1, 8, Check.BAD_ARGUMENT, (x, v) -> x.set(1, v));
        Bounds.range("setting 2", LadderMakers::new, 0, 5000, Check.BAD_ARGUMENT,
                (x, v) -> x.set(2, v));
        Doc.says(8, "Returns the previous value.");
        for (int i = 0; i < 3; i++) {
            int setting = i;
            LadderMakers x = new LadderMakers();
            Check.answers("at first", first[i], () -> x.set(setting, most[setting]));
            Check.answers("the most", most[i], () -> x.set(setting, least[setting]));
            Check.answers("the least", least[i], () -> x.set(setting, least[setting]));
        }
        Doc.says(8, "Throws `IndexOutOfBoundsException` if there is no such setting");
        for (int setting : new int[] {-1, 3}) {
            Bounds.refuses("setting " + setting, LadderMakers::new, Check.NO_INDEX,
                    x -> x.set(setting, 1));
            Bounds.refuses("setting " + setting + " to a wrong value", () -> kept("8", 0),
                    Check.NO_INDEX, x -> x.set(setting, -1));
        }
        Doc.says(8, "Throws `IllegalArgumentException` if value is out of range");
        int[][] outside = {{0, -1}, {0, 3}, {1, 0}, {1, 9}, {2, -1}, {2, 5001}};
        for (int[] set : outside) {
            Bounds.refuses("set(" + set[0] + ", " + set[1] + ")", () -> played("12:3>8", "8"),
                    Check.BAD_ARGUMENT, x -> x.set(set[0], set[1]));
            Bounds.refuses("set(" + set[0] + ", " + set[1] + ") with a promise", () -> kept("8", 0),
                    Check.BAD_ARGUMENT, x -> x.set(set[0], set[1]));
        }
        Doc.says(8, "Throws `IllegalStateException` if there is a promise");
        Bounds.refuses("setting 0", () -> kept("8", 0), Check.BAD_STATE, x -> x.set(0, 0));
        Bounds.refuses("setting 1", () -> kept("8", 0), Check.BAD_STATE, x -> x.set(1, 8));
        Bounds.refuses("setting 2", () -> kept("8", 0), Check.BAD_STATE, x -> x.set(2, 5000));
    }

    // ---- promise and release

    private static void promise09() {
        Doc.says(9, "Makes a promise, in place of one that there is.");
        LadderMakers x = kept("8", 1000);
        x.link(1, 2);
        Check.answers("the mean now", 7000, x::promise);
        Check.due("there is one", x.count(7), 1);
        Check.answers("near the new one", 1, () -> x.link(3, 4));
        Check.fails("near neither of them", Check.BAD_STATE, () -> x.link(5, 6));
        Check.answers("one is taken back at once", 1, x::release);
        Check.answers("no other one is left", 0, x::release);
        Doc.says(9, "Undoable.");
        Bounds.undoable("the first one", () -> played("12:3>8", "8"), LadderMakers::promise);
        Bounds.undoable("the same one", () -> kept("12:3>8", 0), LadderMakers::promise);
        Bounds.undoable("another one", () -> {
            LadderMakers y = kept("8", 1000);
            y.undo();
            y.promise();
            y.link(1, 2);
            y.undo();
            return y;
        }, LadderMakers::promise);
        Doc.says(9, "Returns the promised mean times 1000, rounded down.");
        // One turn, and a second one with so many of the sides; each rest is 0, 1/3 or 2/3.
        String[] faces = {"8", "488888", "48888", "4888", "488", "4488", "448", "444448", "4"};
        int[] thousandths = {1000, 1166, 1200, 1250, 1333, 1500, 1666, 1833, 2000};
        for (int i = 0; i < faces.length; i++) {
            LadderMakers y = Makers.withBoardAndDie("8", faces[i]);
            y.set(1, 2);
            Check.answers("promise with " + faces[i], thousandths[i], y::promise);
            Check.due("count(8) with " + faces[i], y.count(8), thousandths[i]);
        }
        LadderMakers longest = Makers.withBoardAndDie("40", "1");
        longest.set(1, 8);
        Check.answers("the greatest mean", 8000, longest::promise);
        longest.release();
        longest.set(1, 1);
        Check.answers("the least mean", 1000, longest::promise);
    }

    private static void promise10() {
        Doc.says(10, "Takes the promise back.");
        LadderMakers x = kept("8", 0);
        Check.fails("set() with a promise", Check.BAD_STATE, () -> x.set(0, 1));
        x.release();
        Check.due("there is none", x.count(7), 0);
        Check.due("no promised mean", x.count(8), NONE);
        Check.answers("set()", 0, () -> x.set(0, 1));
        Check.answers("order()", 2, () -> x.order(0, 1, NONE, NONE));
        Check.answers("an edit that it did not allow", 0, () -> x.link(1, 8));
        LadderMakers linked = kept("8", 1000);
        linked.link(1, 2);
        linked.addPlayer();
        linked.release();
        Check.due("the link that it allowed stays", linked.square(1, 0), 2);
        Check.due("so does the player", linked.count(4), 1);
        Doc.says(10, "Undoable.");
        Bounds.undoable("with a promise", () -> kept("12:3>8", 0), LadderMakers::release);
        Bounds.undoable("without one", () -> played("12:3>8", "8"), LadderMakers::release);
        Doc.says(10, "Returns 1 if there was one, otherwise 0.");
        LadderMakers y = new LadderMakers();
        Check.answers("none", 0, y::release);
        y.promise();
        Check.answers("one", 1, y::release);
        Check.answers("none again", 0, y::release);
    }
}
