/** Promises 9 to 15: turn, turned, set, state, light, lit, sees. */
public final class LightTest {
    private static final int NONE = BeamBoard.NONE;
    private static final int UP = 0;
    private static final int RIGHT = 1;
    private static final int DOWN = 2;
    private static final int LEFT = 3;
    private static final Check CHECK = new Check("LightTest");

    public static void main(String[] args) {
        turn();
        set();
        straight();
        mirrors();
        halves();
        glass();
        prisms();
        stops();
        movers();
        allAtOnce();
        lit();
        sees();
        CHECK.finish();
    }

    private static void turn() {
        StringBuilder text = new StringBuilder("size 8 2;");
        for (int i = 0; i < 8; i++) {
            text.append(i % 2 == 0 ? "half" : "mirror").append(" slash at ").append(i).append(" 0;");
        }
        BeamBoard x = Check.board(text.toString());
        CHECK.due("turned()", x.turned(), 0);
        CHECK.due("turn(7)", x.turn(7), 1);
        CHECK.due("turned()", x.turned(), 128);
        CHECK.due("turn(0)", x.turn(0), 2);
        CHECK.due("turned()", x.turned(), 129);
        CHECK.due("turn(7)", x.turn(7), 1);
        CHECK.due("turned()", x.turned(), 1);
        CHECK.due("turn(8)", x.turn(8), NONE);
        CHECK.due("turn(-1)", x.turn(-1), NONE);
        CHECK.due("turn(32)", x.turn(32), NONE);
        CHECK.due("turned()", x.turned(), 1);
        CHECK.due("back()", x.back(), 2);
        CHECK.due("no mirror", Check.board("size 2 2;vane slash when all at 0 0;").turn(0), NONE);
    }

    private static void set() {
        BeamBoard x = Check.board("size 4 4;shutter when all at 0 0;vane slash when all at 1 0;mirror slash at 2 0;");
        CHECK.due("state()", x.state(), 0);
        CHECK.due("set(3)", x.set(3), true);
        CHECK.due("state()", x.state(), 3);
        CHECK.due("set(4)", x.set(4), false);
        CHECK.due("set(-1)", x.set(-1), false);
        CHECK.due("set(MIN)", x.set(Integer.MIN_VALUE), false);
        CHECK.due("set(MAX)", x.set(Integer.MAX_VALUE), false);
        CHECK.due("state()", x.state(), 3);
        CHECK.due("set(0)", x.set(0), true);
        CHECK.due("state()", x.state(), 0);
    }

    private static void straight() {
        BeamBoard x = Check.board("size 4 3;lamp green right at 1 1;");
        int[] squares = {2, 3};
        for (int column : squares) {
            CHECK.due("light to the right", x.light(column, 1, RIGHT), 2);
            CHECK.due("light not to the left", x.light(column, 1, LEFT), 0);
        }
        CHECK.due("light at the lamp", x.light(1, 1, RIGHT), 0);
        CHECK.due("light behind the lamp", x.light(0, 1, LEFT), 0);
        CHECK.due("light(4, 1, 1)", x.light(4, 1, RIGHT), NONE);
        CHECK.due("light(-1, 1, 1)", x.light(-1, 1, RIGHT), NONE);
        CHECK.due("light(0, 3, 1)", x.light(0, 3, RIGHT), NONE);
        CHECK.due("light(0, -1, 1)", x.light(0, -1, RIGHT), NONE);
        CHECK.due("light(0, 0, 4)", x.light(0, 0, 4), NONE);
        CHECK.due("light(0, 0, -1)", x.light(0, 0, -1), NONE);
        String[] words = {"up", "right", "down", "left"};
        int[][] at = {{1, 0}, {2, 1}, {1, 2}, {0, 1}};
        for (int way = 0; way < 4; way++) {
            BeamBoard y = Check.board("size 3 3;lamp white " + words[way] + " at 1 1;");
            CHECK.due("light " + words[way], y.light(at[way][0], at[way][1], way), 7);
            CHECK.due("lit(7)", y.lit(7), 1);
        }
        BeamBoard edge = Check.board("size 3 3;lamp white up at 1 0;lamp red left at 0 1;lamp red right at 2 1;lamp red down at 1 2;");
        CHECK.due("none beyond the edge", edge.lit(7), 0);
    }

    private static void mirrors() {
        // A lamp beside the mirror in the middle, and where its light comes out, for each way and form.
        String[] words = {"up", "right", "down", "left"};
        int[][] from = {{1, 2}, {0, 1}, {1, 0}, {2, 1}};
        int[][] to = {{1, 0}, {2, 1}, {1, 2}, {0, 1}};
        int[][] out = {{RIGHT, UP, LEFT, DOWN}, {LEFT, DOWN, RIGHT, UP}};
        String[] forms = {"slash", "back"};
        for (int form = 0; form < 2; form++) {
            for (int way = 0; way < 4; way++) {
                for (int turned = 0; turned < 2; turned++) {
                    String text = "size 3 3;lamp blue " + words[way] + " at " + from[way][0] + " " + from[way][1] + ";mirror "
                            + forms[form] + " at 1 1;";
                    BeamBoard x = Check.board(text);
                    if (turned == 1) {
                        x.turn(0);
                    }
                    int then = out[form ^ turned][way];
                    CHECK.due(text + " turned " + turned, x.light(to[then][0], to[then][1], then), 4);
                    CHECK.due(text + " lit", x.lit(7), 2);
                }
            }
        }
    }

    private static void halves() {
        BeamBoard x = Check.board("size 3 3;lamp white right at 0 1;half slash at 1 1;");
        CHECK.due("half: on", x.light(2, 1, RIGHT), 7);
        CHECK.due("half: turned up", x.light(1, 0, UP), 7);
        CHECK.due("half: not down", x.light(1, 2, DOWN), 0);
        x.turn(0);
        CHECK.due("half back: on", x.light(2, 1, RIGHT), 7);
        CHECK.due("half back: turned down", x.light(1, 2, DOWN), 7);
        CHECK.due("half back: not up", x.light(1, 0, UP), 0);
    }

    private static void glass() {
        String[] colours = {"red", "green", "blue", "white"};
        int[] bits = {1, 2, 4, 7};
        for (int lamp = 0; lamp < 4; lamp++) {
            for (int glass = 0; glass < 4; glass++) {
                BeamBoard x = Check.board("size 3 2;lamp " + colours[lamp] + " right at 0 0;glass " + colours[glass] + " at 1 0;");
                CHECK.due("ahead of the glass", x.light(1, 0, RIGHT), bits[lamp]);
                CHECK.due("behind the glass", x.light(2, 0, RIGHT), bits[lamp] & bits[glass]);
            }
        }
    }

    private static void prisms() {
        String[] words = {"up", "right", "down", "left"};
        int[][] from = {{1, 2}, {0, 1}, {1, 0}, {2, 1}};
        int[][] to = {{1, 0}, {2, 1}, {1, 2}, {0, 1}};
        for (int way = 0; way < 4; way++) {
            BeamBoard x = Check.board("size 3 3;prism at 1 1;lamp white " + words[way] + " at " + from[way][0] + " " + from[way][1] + ";");
            int right = (way + 1) % 4;
            int left = (way + 3) % 4;
            CHECK.due("prism: red on, " + words[way], x.light(to[way][0], to[way][1], way), 1);
            CHECK.due("prism: green to the right, " + words[way], x.light(to[right][0], to[right][1], right), 2);
            CHECK.due("prism: blue to the left, " + words[way], x.light(to[left][0], to[left][1], left), 4);
            CHECK.due("lit(7)", x.lit(7), 4);
        }
    }

    private static void stops() {
        String[] pieces = {"wall", "lamp red up", "eye a", "shutter when all"};
        for (String piece : pieces) {
            BeamBoard x = Check.board("size 4 2;lamp white right at 0 1;" + piece + " at 2 1;");
            CHECK.due("light into " + piece, x.light(2, 1, RIGHT), 7);
            CHECK.due("light behind " + piece, x.light(3, 1, RIGHT), 0);
        }
    }

    private static void movers() {
        BeamBoard x = Check.board("size 4 3;lamp white right at 0 1;shutter when all at 1 1;vane slash when all at 2 1;");
        CHECK.due("shut", x.lit(7), 1);
        x.set(2);
        CHECK.due("shut, by the bit of another", x.lit(7), 1);
        x.set(1);
        CHECK.due("open", x.light(2, 1, RIGHT), 7);
        CHECK.due("vane slash: up", x.light(2, 0, UP), 7);
        CHECK.due("vane slash: not down", x.light(2, 2, DOWN), 0);
        CHECK.due("vane: not on", x.light(3, 1, RIGHT), 0);
        x.set(3);
        CHECK.due("vane slash that is open: down", x.light(2, 2, DOWN), 7);
        CHECK.due("vane slash that is open: not up", x.light(2, 0, UP), 0);
    }

    private static void allAtOnce() {
        // The colours of two lamps meet; red goes round a ring of halves and comes out of it again.
        BeamBoard x = Check.board("size 5 3;lamp red right at 0 0;lamp blue left at 4 0;eye a at 2 2;half slash at 1 0;"
                + "half back at 3 0;half back at 1 1;half slash at 3 1;");
        CHECK.due("red to the right", x.light(2, 0, RIGHT), 1);
        CHECK.due("blue to the left", x.light(2, 0, LEFT), 4);
        CHECK.due("red round to the left", x.light(2, 1, LEFT), 1);
        CHECK.due("blue round to the right", x.light(2, 1, RIGHT), 4);
        CHECK.due("both down out of it", x.light(1, 2, DOWN), 4);
        CHECK.due("both down out of it", x.light(3, 2, DOWN), 1);
        CHECK.due("both come to the lamp", x.light(4, 0, RIGHT), 1);
        CHECK.due("blue to the other lamp", x.light(0, 0, LEFT), 4);
        BeamBoard two = Check.board("size 5 2;lamp red right at 0 0;prism at 1 0;lamp blue right at 2 1;mirror back at 3 0;mirror slash at 3 1;eye b at 4 1;");
        CHECK.due("eye b", two.sees(0), 0);
    }

    private static void lit() {
        BeamBoard x = Check.board("size 5 4;lamp white right at 0 1;prism at 2 1;eye a at 4 1;wall at 2 3;");
        CHECK.due("lit(1)", x.lit(1), 4);
        CHECK.due("lit(2)", x.lit(2), 4);
        CHECK.due("lit(4)", x.lit(4), 3);
        CHECK.due("lit(7)", x.lit(7), 7);
        for (int colour : new int[] {-1, 0, 3, 5, 6, 8, Integer.MAX_VALUE, Integer.MIN_VALUE}) {
            CHECK.due("lit(" + colour + ")", x.lit(colour), NONE);
        }
        BeamBoard cross = Check.board("size 3 3;lamp red right at 0 1;lamp red down at 1 0;");
        CHECK.due("a square that two beams come into counts once", cross.lit(1), 3);
    }

    private static void sees() {
        BeamBoard x = Check.board("size 4 3;eye a at 1 1;eye b at 0 0;lamp red right at 0 1;lamp green left at 3 1;"
                + "lamp blue down at 1 0;glass blue at 2 1;");
        CHECK.due("sees(0)", x.sees(0), 5);
        CHECK.due("sees(1)", x.sees(1), 0);
        CHECK.due("sees(2)", x.sees(2), NONE);
        CHECK.due("sees(-1)", x.sees(-1), NONE);
        CHECK.due("sees(MAX)", x.sees(Integer.MAX_VALUE), NONE);
    }
}
