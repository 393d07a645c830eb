/** Counts answers that are due; a test ends with end(). */
final class Check {
    private static int right = 0;
    private static int wrong = 0;
    private static String test = "";

    private Check() {
    }

    /** What follows belongs to a test with a name of its own. */
    static void begin(String name) {
        test = name + ": ";
    }

    static int answers() {
        return right + wrong;
    }

    static void due(String call, long got, long want) {
        if (got == want) {
            right++;
        } else {
            fail(call + " answered " + got + ", due is " + want);
        }
    }

    static void due(String call, String got, String want) {
        if (got.equals(want)) {
            right++;
        } else {
            fail(call + " gave " + got + ", due is " + want);
        }
    }

    static void fail(String why) {
        wrong++;
        if (wrong <= 50) {
            System.out.println(test + why);
        }
    }

    static void end(String tests) {
        System.out.println(tests + ": " + right + " answers as due, " + wrong + " not");
        if (wrong != 0 || right == 0) {
            System.exit(1);
        }
    }

    /** A new object with a board as drawn, a text a row: 0 .. 5 a land, any other sign the sea. */
    static LandBoard laid(String... rows) {
        LandBoard board = new LandBoard();
        lay(board, rows);
        return board;
    }

    /** A drawing that no board can be like would leave a test without what it is about, so it fails the test. */
    static void lay(LandBoard board, String... rows) {
        if (board.board(rows[0].length(), rows.length) != rows[0].length() * rows.length) {
            fail("a board of " + rows[0].length() + " by " + rows.length + " can't be laid");
        }
        for (int y = 0; y < rows.length; y++) {
            if (rows[y].length() != rows[0].length()) {
                fail("row " + y + " is drawn in another length");
            }
            for (int x = 0; x < rows[y].length(); x++) {
                int land = rows[y].charAt(x) - '0';
                if (land >= 0 && land <= 5) {
                    board.set(x, y, land);
                }
            }
        }
    }

    static void dueBoard(String when, LandBoard board, String... rows) {
        due(when + ": columns", board.count(0), rows[0].length());
        due(when + ": rows", board.count(1), rows.length);
        for (int y = 0; y < rows.length; y++) {
            for (int x = 0; x < rows[y].length(); x++) {
                int land = rows[y].charAt(x) - '0';
                due(when + ": at(" + x + ", " + y + ")", board.at(x, y),
                    land >= 0 && land <= 5 ? land : LandBoard.SEA);
            }
        }
    }
}
