/** Makes objects for the tests and types texts into them. */
final class Makers {
    private Makers() {
    }

    static void type(LadderMakers x, String text) {
        for (int i = 0; i < text.length(); i++) {
            x.append(text.charAt(i));
        }
    }

    static void retype(LadderMakers x, String text) {
        x.clearBuffer();
        type(x, text);
    }

    static LadderMakers withBoard(String text) {
        LadderMakers x = new LadderMakers();
        type(x, text);
        x.load();
        return x;
    }

    /** A board on which each turn goes by one of the faces. */
    static LadderMakers withBoardAndDie(String board, String faces) {
        LadderMakers x = withBoard(board);
        giveDie(x, 0, faces);
        return x;
    }

    static void giveDie(LadderMakers x, int die, String faces) {
        retype(x, faces);
        x.die(die);
    }
}
