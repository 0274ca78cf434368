/** The boundary cases that the document names in the promises 17 to 22. */
final class BoundaryThere {
    private static final int NONE = LadderMakers.NONE;
    private static final String TEN = "20:1>0,2>0,3>0,4>0,5>0,6>0,7>0,8>0,9>0,10>0";

    private BoundaryThere() {
    }

    static void run() {
        promise17();
        promise17CanBegin();
        promise18();
        promise19();
        promise20();
        promise20Rank();
        promise21();
        promise21Promised();
        promise22();
    }

    /** Two players of four are on the goal, one is on 8, one on 0. */
    private static LadderMakers played() {
        LadderMakers x = Makers.withBoard("12:3>8,10>4,11>8,1>12");
        for (int player = 0; player < 4; player++) {
            x.addPlayer();
        }
        x.roll(1, 0);
        x.roll(2, 2);
        x.roll(3, 0);
        Makers.type(x, "8:1>2");
        return x;
    }

    private static void promise17() {
        Doc.says(17, "`square`: its number");
        Bounds.range("square", BoundaryThere::played, 0, 12, Check.NO_INDEX,
                (x, v) -> x.square(v, 0));
        Bounds.range("square of the least board", () -> Makers.withBoard("8"), 0, 8, Check.NO_INDEX,
                (x, v) -> x.square(v, 3));
        Doc.says(17, "Returns a property of a square.");
        LadderMakers x = played();
        int[] leads = {NONE, 12, NONE, 8, NONE, NONE, NONE, NONE, NONE, NONE, 4, 8, NONE};
        int[] ends = {0, 0, 0, 0, 1, 0, 0, 0, 2, 0, 0, 0, 1};
        int[] players = {1, 0, 0, 0, 0, 0, 0, 0, 1, 0, 0, 0, 2};
        int[] begins = {0, 0, 1, 0, 0, 1, 1, 1, 0, 1, 0, 0, 0};
        for (int square = 0; square <= 12; square++) {
            Check.due("link from " + square, x.square(square, 0), leads[square]);
            Check.due("links to " + square, x.square(square, 1), ends[square]);
            Check.due("players on " + square, x.square(square, 2), players[square]);
            Check.due("link that can begin at " + square, x.square(square, 3), begins[square]);
        }
        Doc.says(17, "Returns the property.");
        Bounds.takes("four players on 0", () -> {
            LadderMakers y = new LadderMakers();
            while (y.count(4) < 4) {
                y.addPlayer();
            }
            return y;
        }, 4, y -> y.square(0, 2));
        Bounds.takes("ten links to 0", () -> Makers.withBoard(TEN), 10, y -> y.square(0, 1));
        Bounds.takes("a link to 0", () -> Makers.withBoard(TEN), 0, y -> y.square(10, 0));
        Doc.says(17, "Throws `IndexOutOfBoundsException` if there is no such square");
        for (int what = -1; what <= 4; what++) {
            int w = what;
            Bounds.refuses("square -1", BoundaryThere::played, Check.NO_INDEX, y -> y.square(-1, w));
            Bounds.refuses("square 13", BoundaryThere::played, Check.NO_INDEX, y -> y.square(13, w));
        }
        Doc.says(17, "Throws `IllegalArgumentException` if what is not 0 to 3");
        Bounds.range("what", BoundaryThere::played, 0, 3, Check.BAD_ARGUMENT,
                (y, v) -> y.square(12, v));
    }

    private static void promise17CanBegin() {
        Doc.says(17,
                "`what`: 0: the square to which a link leads from it, NONE if none begins there; 1:"
                        + " links that end there; 2: players who are on it; 3: 1 if a link can begin"
                        + " there to some square now, as far as links are allowed (whether there are"
                        + " 10, or there is a promise, does not matter), otherwise 0");
        LadderMakers ten = Makers.withBoard(TEN);
        for (int square = 0; square <= 20; square++) {
            Check.due("with 10 links at " + square, ten.square(square, 3),
                    square >= 11 && square <= 19 ? 1 : 0);
        }
        ten.unlink(9);
        Check.due("with 9 links", ten.square(10, 3), 1);
        LadderMakers kept = Makers.withBoardAndDie("8:6>3", "1");
        kept.set(1, 8);
        kept.set(2, 0);
        kept.promise();
        int[] begins = {0, 1, 1, 0, 1, 1, 0, 1, 0};
        for (int square = 0; square <= 8; square++) {
            Check.due("with a promise at " + square, kept.square(square, 3), begins[square]);
        }
        Check.due("no link from there", kept.square(3, 0), NONE);
        Check.due("a link from there", kept.square(6, 0), 3);
        // All squares between 0 and the goal begin or end a link: no other one can begin.
        LadderMakers taken = Makers.withBoard("8:1>2,3>4,5>6,7>8");
        for (int square = 0; square <= 8; square++) {
            Check.due("no place at " + square, taken.square(square, 3), 0);
        }
    }

    private static void promise18() {
        Doc.says(18, "Returns a property of a link.");
        LadderMakers x = Makers.withBoard("40:1>40,39>0,20>21,22>19");
        int[][] links = {{1, 40, 39}, {39, 0, -39}, {20, 21, 1}, {22, 19, -3}};
        for (int link = 0; link < 4; link++) {
            for (int what = 0; what < 3; what++) {
                Check.due("linkOf(" + link + ", " + what + ")", x.linkOf(link, what),
                        links[link][what]);
            }
        }
        Doc.says(18, "`link`: its number");
        Bounds.range("of one link", () -> Makers.withBoard("8:1>0"), 0, 0, Check.NO_INDEX,
                (y, v) -> y.linkOf(v, 0));
        Bounds.range("of ten links", () -> Makers.withBoard(TEN), 0, 9, Check.NO_INDEX,
                (y, v) -> y.linkOf(v, 2));
        Doc.says(18,
                "`what`: 0: the square at which it begins; 1: the square at which it ends; 2: how far"
                        + " it leads (below 0 for a snake)");
        Bounds.takes("the longest snake", () -> Makers.withBoard("40:39>0"), -39,
                y -> y.linkOf(0, 2));
        Bounds.takes("the longest ladder", () -> Makers.withBoard("40:1>40"), 39,
                y -> y.linkOf(0, 2));
        Bounds.takes("the shortest snake", () -> Makers.withBoard("40:5>4"), -1,
                y -> y.linkOf(0, 2));
        Doc.says(18, "Returns the property.");
        Bounds.takes("the least beginning", () -> Makers.withBoard("8:1>0"), 1, y -> y.linkOf(0, 0));
        Bounds.takes("the least end", () -> Makers.withBoard("8:1>0"), 0, y -> y.linkOf(0, 1));
        Doc.says(18, "Throws `IndexOutOfBoundsException` if there is no such link");
        Bounds.refuses("no links", LadderMakers::new, Check.NO_INDEX, y -> y.linkOf(0, 0));
        for (int what = -1; what <= 3; what++) {
            int w = what;
            Bounds.refuses("link -1", BoundaryThere::played, Check.NO_INDEX, y -> y.linkOf(-1, w));
            Bounds.refuses("link 4", BoundaryThere::played, Check.NO_INDEX, y -> y.linkOf(4, w));
        }
        Doc.says(18, "Throws `IllegalArgumentException` if what is not 0 to 2");
        Bounds.range("what", BoundaryThere::played, 0, 2, Check.BAD_ARGUMENT,
                (y, v) -> y.linkOf(3, v));
    }

    private static LadderMakers withSides(int sides) {
        LadderMakers x = new LadderMakers();
        Makers.giveDie(x, 1, "987654".substring(0, sides));
        return x;
    }

    private static void promise19() {
        Doc.says(19, "Returns a face of a die.");
        for (int sides = 1; sides <= 6; sides++) {
            LadderMakers x = withSides(sides);
            for (int side = 0; side < 6; side++) {
                Check.due("side " + side + " of " + sides, x.face(1, side),
                        side < sides ? 9 - side : NONE);
                Check.due("side " + side + " of another die", x.face(2, side), side + 1);
            }
        }
        Doc.says(19, "`die`: 0 to 2");
        Bounds.range("die", () -> withSides(1), 0, 2, Check.NO_INDEX, (x, v) -> x.face(v, 5));
        Doc.says(19, "`side`: its side, from 0");
        Bounds.takes("the first side", () -> withSides(1), 9, x -> x.face(1, 0));
        Bounds.takes("the last side", () -> withSides(6), 4, x -> x.face(1, 5));
        Doc.says(19, "Returns the face; NONE if there is no such side.");
        Bounds.takes("side 1 of 1", () -> withSides(1), NONE, x -> x.face(1, 1));
        Bounds.takes("side 4 of 5", () -> withSides(5), 5, x -> x.face(1, 4));
        Bounds.takes("side 5 of 5", () -> withSides(5), NONE, x -> x.face(1, 5));
        Bounds.takes("a side that an earlier die had", () -> {
            LadderMakers x = withSides(6);
            Makers.giveDie(x, 1, "12");
            return x;
        }, NONE, x -> x.face(1, 2));
        Doc.says(19, "Throws `IndexOutOfBoundsException` if there is no such die");
        for (int side : new int[] {-1, 0, 5, 6}) {
            Bounds.refuses("die -1", LadderMakers::new, Check.NO_INDEX, x -> x.face(-1, side));
            Bounds.refuses("die 3", LadderMakers::new, Check.NO_INDEX, x -> x.face(3, side));
        }
        Doc.says(19, "Throws `IllegalArgumentException` if side is not 0 to 5");
        Bounds.range("side of a die of six", () -> withSides(6), 0, 5, Check.BAD_ARGUMENT,
                (x, v) -> x.face(1, v));
        Bounds.range("side of a die of one", () -> withSides(1), 0, 5, Check.BAD_ARGUMENT,
                (x, v) -> x.face(1, v));
    }

    private static void promise20() {
        Doc.says(20, "Returns a property of a player.");
        LadderMakers x = played();
        int[][] properties = {{0, 0, 0, 0, 4}, {12, 1, 1, 0, 1}, {8, 1, 0, 0, 3}, {12, 1, 1, 0, 1}};
        for (int player = 0; player < 4; player++) {
            for (int what = 0; what < 5; what++) {
                Check.due("player(" + player + ", " + what + ")", x.player(player, what),
                        properties[player][what]);
            }
        }
        Doc.says(20, "`player`: the number of the player");
        Bounds.range("of four", BoundaryThere::played, 0, 3, Check.NO_INDEX,
                (y, v) -> y.player(v, 0));
        Bounds.range("of one", () -> {
            LadderMakers y = new LadderMakers();
            y.addPlayer();
            return y;
        }, 0, 0, Check.NO_INDEX, (y, v) -> y.player(v, 4));
        Doc.says(20, "Returns the property.");
        Bounds.takes("one square before the goal", () -> onEight("7"), 0, y -> y.player(0, 2));
        Bounds.takes("the goal", () -> onEight("8"), 1, y -> y.player(0, 2));
        Bounds.takes("its square", () -> onEight("8"), 8, y -> y.player(0, 0));
        Doc.says(20, "Throws `IndexOutOfBoundsException` if there is no such player");
        Bounds.refuses("no players", LadderMakers::new, Check.NO_INDEX, y -> y.player(0, 0));
        for (int what = -1; what <= 5; what++) {
            int w = what;
            Bounds.refuses("player -1", BoundaryThere::played, Check.NO_INDEX, y -> y.player(-1, w));
            Bounds.refuses("player 4", BoundaryThere::played, Check.NO_INDEX, y -> y.player(4, w));
        }
        Doc.says(20, "Throws `IllegalArgumentException` if what is not 0 to 4");
        Bounds.range("what", BoundaryThere::played, 0, 4, Check.BAD_ARGUMENT,
                (y, v) -> y.player(3, v));
    }

    /** A player who has rolled the only face once. */
    private static LadderMakers onEight(String face) {
        LadderMakers x = Makers.withBoardAndDie("8", face);
        x.addPlayer();
        x.roll(0, 0);
        return x;
    }

    private static void promise20Rank() {
        Doc.says(20,
                "`what`: 0: the square; 1: turns that were made; 2: 1 if the player is on the goal,"
                        + " otherwise 0; 3: the die of the next turn; 4: the rank: 1 and how many"
                        + " players are on a greater square, or on the same one with fewer turns");
        LadderMakers x = new LadderMakers();
        x.addPlayer();
        Check.due("rank of the only one", x.player(0, 4), 1);
        for (int player = 1; player < 4; player++) {
            x.addPlayer();
        }
        // Squares 4, 4, 3, 5; turns 1, 2, 1, 3.
        x.roll(0, 3);
        x.roll(1, 0);
        x.roll(1, 2);
        x.roll(2, 2);
        x.roll(3, 1);
        x.roll(3, 1);
        x.roll(3, 0);
        int[] ranks = {2, 3, 4, 1};
        for (int player = 0; player < 4; player++) {
            Check.due("rank of " + player, x.player(player, 4), ranks[player]);
        }
        x.undo();
        int[] ties = {1, 2, 4, 2};
        for (int player = 0; player < 4; player++) {
            Check.due("rank of " + player + " with the same turns", x.player(player, 4),
                    ties[player]);
        }
        LadderMakers y = new LadderMakers();
        y.order(0, 1, 2, NONE);
        y.addPlayer();
        int[] dice = {0, 1, 2, 0, 1, 2, 0};
        for (int turn = 0; turn < dice.length; turn++) {
            Check.due("turns made", y.player(0, 1), turn);
            Check.due("die of the next turn", y.player(0, 3), dice[turn]);
            y.roll(0, 0);
        }
    }

    private static void promise21() {
        Doc.says(21, "Returns a number.");
        LadderMakers x = played();
        int[] counts = {12, 4, 2, 2, 4, 2, 1, 0, NONE, 6, 0, NONE, NONE, NONE};
        for (int what = 0; what < counts.length; what++) {
            Check.due("count(" + what + ")", x.count(what), counts[what]);
        }
        Doc.says(21, "Returns the number.");
        int[][] orders = {{2, NONE, NONE, NONE}, {2, 1, NONE, NONE}, {2, 1, 0, NONE}, {2, 1, 0, 2}};
        for (int[] order : orders) {
            LadderMakers y = new LadderMakers();
            int length = y.order(order[0], order[1], order[2], order[3]);
            Check.due("dice of the order", y.count(6), length);
            for (int place = 0; place < 4; place++) {
                Check.due("die " + place + " of " + length, y.count(10 + place), order[place]);
            }
        }
        Doc.says(21, "Throws `IllegalArgumentException` if what is not 0 to 13");
        Bounds.range("what", BoundaryThere::played, 0, 13, Check.BAD_ARGUMENT,
                LadderMakers::count);
    }

    private static void promise21Promised() {
        Doc.says(21,
                "`what`: 0: the goal; 1: links; 2: ladders; 3: snakes; 4: players; 5: players on the"
                        + " goal; 6: dice of the order; 7: 1 if there is a promise, otherwise 0; 8:"
                        + " the promised mean times 1000, rounded down, NONE without a promise; 9:"
                        + " saved states; 10 to 13: the dice of the order, NONE if there are not so"
                        + " many");
        LadderMakers x = Makers.withBoardAndDie("8", "488888");
        x.set(1, 2);
        Check.due("without a promise", x.count(8), NONE);
        Check.due("there is none", x.count(7), 0);
        x.promise();
        Check.due("1166 2/3, rounded down", x.count(8), 1166);
        Check.due("there is one", x.count(7), 1);
        x.release();
        Check.due("behind release()", x.count(8), NONE);
        Bounds.takes("the least goal", () -> Makers.withBoard("8"), 8, y -> y.count(0));
        Bounds.takes("the greatest goal", () -> Makers.withBoard("40"), 40, y -> y.count(0));
        Bounds.takes("ten links", () -> Makers.withBoard(TEN), 10, y -> y.count(1));
        Bounds.takes("no ladders of ten", () -> Makers.withBoard(TEN), 0, y -> y.count(2));
        Bounds.takes("ten snakes", () -> Makers.withBoard(TEN), 10, y -> y.count(3));
        LadderMakers won = Makers.withBoardAndDie("8", "8");
        for (int player = 0; player < 4; player++) {
            won.addPlayer();
            Check.due("players", won.count(4), player + 1);
        }
        for (int player = 0; player < 4; player++) {
            Check.due("players on the goal", won.count(5), player);
            won.roll(player, 0);
        }
        Check.due("all on the goal", won.count(5), 4);
        LadderMakers saved = new LadderMakers();
        for (int changes = 0; changes <= 8; changes++) {
            Check.due("saved states", saved.count(9), Math.min(changes, 6));
            saved.release();
        }
    }

    private static void promise22() {
        Doc.says(22, "Returns a setting.");
        LadderMakers x = new LadderMakers();
        x.set(0, 2);
        x.set(1, 8);
        x.set(2, 5000);
        int[] most = {2, 8, 5000};
        for (int setting = 0; setting < 3; setting++) {
            Check.due("the most", x.setting(setting), most[setting]);
        }
        Doc.says(22, "`setting`: 0 to 2");
        Bounds.range("setting", BoundaryThere::played, 0, 2, Check.NO_INDEX,
                LadderMakers::setting);
        Doc.says(22, "Returns its value.");
        x.set(0, 0);
        x.set(1, 1);
        x.set(2, 0);
        int[] least = {0, 1, 0};
        for (int setting = 0; setting < 3; setting++) {
            Check.due("the least", x.setting(setting), least[setting]);
        }
        Doc.says(22, "Throws `IndexOutOfBoundsException` if there is no such setting");
        Bounds.refuses("setting -1", LadderMakers::new, Check.NO_INDEX, y -> y.setting(-1));
        Bounds.refuses("setting 3", LadderMakers::new, Check.NO_INDEX, y -> y.setting(3));
    }
}
