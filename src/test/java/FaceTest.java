/** Promises 6 to 8: has, letter, square. */
public final class FaceTest {
    private static final int NONE = BeamBoard.NONE;
    private static final Check CHECK = new Check("FaceTest");

    public static void main(String[] args) {
        has();
        letter();
        square();
        CHECK.finish();
    }

    private static void has() {
        BeamBoard x = Check.board("size 7 5;lamp red up at 0 0;lamp blue up at 1 0;mirror slash at 2 0;half back at 3 0;"
                + "mirror back at 4 0;glass red at 5 0;prism at 6 0;wall at 0 1;wall at 1 1;eye a at 2 1;eye b at 3 1;"
                + "eye c at 4 1;eye d at 5 1;shutter when all at 6 1;vane slash when all at 0 2;shutter when all at 1 2;"
                + "vane back when all at 2 2;shutter when all at 3 2;");
        int[] due = {7, 5, 2, 3, 5, 4, 18};
        for (int what = 0; what < due.length; what++) {
            CHECK.due("has(" + what + ")", x.has(what), due[what]);
        }
        for (int what : new int[] {-1, 7, 100, Integer.MAX_VALUE, Integer.MIN_VALUE}) {
            CHECK.due("has(" + what + ")", x.has(what), NONE);
        }
    }

    private static void letter() {
        BeamBoard x = Check.board("size 4 4;eye a at 0 0;eye abcdef at 1 0;eye zzzzzz at 2 0;eye lampa at 3 0;");
        String[] names = {"a", "abcdef", "zzzzzz", "lampa"};
        for (int eye = 0; eye < names.length; eye++) {
            for (int k = 0; k < names[eye].length(); k++) {
                CHECK.due("letter(" + eye + ", " + k + ")", x.letter(eye, k), names[eye].charAt(k));
            }
            CHECK.due("letter behind the last", x.letter(eye, names[eye].length()), NONE);
            CHECK.due("letter(" + eye + ", -1)", x.letter(eye, -1), NONE);
            CHECK.due("letter(" + eye + ", MAX)", x.letter(eye, Integer.MAX_VALUE), NONE);
            CHECK.due("letter(" + eye + ", MIN)", x.letter(eye, Integer.MIN_VALUE), NONE);
        }
        CHECK.due("letter(4, 0)", x.letter(4, 0), NONE);
        CHECK.due("letter(-1, 0)", x.letter(-1, 0), NONE);
        CHECK.due("letter(MAX, 0)", x.letter(Integer.MAX_VALUE, 0), NONE);
    }

    private static void square() {
        BeamBoard x = Check.board("size 5 4;shutter when all at 2 1;lamp blue up at 0 0;lamp white down at 1 0;"
                + "mirror slash at 2 0;half back at 3 0;half slash at 4 0;glass green at 0 1;prism at 1 1;wall at 3 1;"
                + "eye a at 4 1;eye b at 0 2;vane slash when all at 1 2;vane back when all at 2 2;");
        row(x, 0, 0, 1, 0, 4);
        row(x, 1, 0, 1, 1, 7);
        row(x, 2, 0, 2, 0, 0);
        row(x, 3, 0, 3, 1, 1);
        row(x, 4, 0, 3, 2, 0);
        row(x, 0, 1, 4, NONE, 2);
        row(x, 1, 1, 5, NONE, NONE);
        row(x, 2, 1, 8, 0, 0);
        row(x, 3, 1, 6, NONE, NONE);
        row(x, 4, 1, 7, 0, NONE);
        row(x, 0, 2, 7, 1, NONE);
        row(x, 1, 2, 9, 1, 0);
        row(x, 2, 2, 9, 2, 1);
        row(x, 3, 2, 0, NONE, NONE);
        x.turn(1);
        x.turn(2);
        row(x, 2, 0, 2, 0, 0);
        row(x, 3, 0, 3, 1, 0);
        row(x, 4, 0, 3, 2, 1);
        row(x, 1, 2, 9, 1, 0);
        x.turn(1);
        row(x, 3, 0, 3, 1, 1);
        x.set(3);
        row(x, 2, 1, 8, 0, 1);
        row(x, 1, 2, 9, 1, 1);
        row(x, 2, 2, 9, 2, 1);
        x.set(4);
        row(x, 2, 1, 8, 0, 0);
        row(x, 2, 2, 9, 2, 0);
        row(x, 2, 0, 2, 0, 0);
        int[][] outside = {{-1, 0}, {0, -1}, {5, 0}, {0, 4}, {Integer.MAX_VALUE, 0}, {0, Integer.MIN_VALUE}};
        for (int[] at : outside) {
            for (int what = 0; what < 3; what++) {
                CHECK.due("no such square", x.square(at[0], at[1], what), NONE);
            }
        }
    }

    private static void row(BeamBoard x, int column, int row, int sort, int number, int look) {
        String at = "square(" + column + ", " + row + ", ";
        CHECK.due(at + "0)", x.square(column, row, 0), sort);
        CHECK.due(at + "1)", x.square(column, row, 1), number);
        CHECK.due(at + "2)", x.square(column, row, 2), look);
        CHECK.due(at + "3)", x.square(column, row, 3), NONE);
        CHECK.due(at + "-1)", x.square(column, row, -1), NONE);
    }
}
