/**
 * Where the document's sentences of light and states (Terms, II; promises 1 and 6 to 19) end: nothing there and all places
 * taken, the first and the last of each number, the longest rounds.
 */
public final class EdgeBoardTest {
    private static final int NONE = BeamBoard.NONE;
    private static final int MAX = Integer.MAX_VALUE;
    private static final int MIN = Integer.MIN_VALUE;
    private static final Check CHECK = new Check("EdgeBoardTest");
    private static final String[] WORDS = {"up", "right", "down", "left"};
    private static final String[] FORMS = {"slash", "back"};
    private static final String[] COLOURS = {"red", "green", "blue", "white"};
    private static final int[] BITS = {1, 2, 4, 7};
    private static final int[][] MOVE = {{0, -1}, {1, 0}, {0, 1}, {-1, 0}};
    /** Where each way goes on behind a mirror, by its form. */
    private static final int[][] TURNED = {{1, 0, 3, 2}, {3, 2, 1, 0}};

    public static void main(String[] args) {
        newObject();
        fullBoard();
        oneByOne();
        turnAll();
        corners();
        edges();
        turningPieces();
        shutters();
        coloursTogether();
        howeverFar();
        countsRound();
        countsUp();
        halfAhead();
        firstAndLeast();
        keeps();
        withoutMovers();
        CHECK.finish();
    }

    /** As large as can be, sixty statements, as many of each group as can be: row k has lamp k and eye k. */
    static String full() {
        StringBuilder text = new StringBuilder("size 12 12;");
        for (int k = 0; k < 8; k++) {
            text.append("lamp ").append(COLOURS[k % 4]).append(" right at 0 ").append(k).append(";eye n").append((char) ('a' + k))
                    .append(" at 11 ").append(k).append(k % 2 == 0 ? ";mirror " : ";half ").append(FORMS[k / 4]).append(" at ").append(k)
                    .append(" 8;");
        }
        for (int k = 0; k < 6; k++) {
            text.append(k % 2 == 0 ? "shutter" : "vane back").append(" when sees n").append((char) ('a' + k)).append(" red at ").append(k)
                    .append(" 9;");
        }
        for (int column = 0; column < 12; column++) {
            text.append("glass ").append(COLOURS[column % 4]).append(" at ").append(column).append(" 10;prism at ").append(column).append(" 11;");
        }
        for (int column = 6; column < 11; column++) {
            text.append("wall at ").append(column).append(" 9;");
        }
        return text.toString();
    }

    private static void newObject() {
        BeamBoard x = new BeamBoard();
        int[] odd = {0, 1, -1, MAX, MIN};
        for (int k : odd) {
            CHECK.due("square", x.square(k, 0, 0), NONE);
            CHECK.due("light", x.light(0, k, 0), NONE);
            CHECK.due("letter", x.letter(k, 0), NONE);
            CHECK.due("sees", x.sees(k), NONE);
            CHECK.due("behind", x.behind(k), NONE);
            CHECK.due("turn", x.turn(k), NONE);
            CHECK.due("wish", x.wish(k, 0), false);
            CHECK.due("needed", x.needed(k, 0), NONE);
            CHECK.due("shadow", x.shadow(0, k), NONE);
            CHECK.due("tint", x.tint(k, 0), NONE);
            CHECK.due("swapped", x.swapped(k, 0, 0, 1), NONE);
            CHECK.due("reach", x.reach(k, 0, 1), NONE);
            CHECK.due("set", x.set(k), k == 0);
            CHECK.due("drawn", x.drawn(k), k == 0 ? 1 : NONE);
            CHECK.due("octet", x.octet(k), NONE);
        }
        int[] colours = {1, 2, 4, 7};
        for (int colour : colours) {
            CHECK.due("lit(" + colour + ")", x.lit(colour), 0);
            CHECK.due("rings(" + colour + ")", x.rings(colour), colour == 7 ? NONE : 0);
        }
        int[] round = {0, 1, 0, 0, NONE};
        for (int what = 0; what < 5; what++) {
            CHECK.due("round(" + what + ")", x.round(what), round[what]);
            CHECK.due("darkest(" + what + ")", x.darkest(what), NONE);
            CHECK.due("more(" + what + ")", x.more(what), NONE);
        }
        CHECK.due("rests(NONE)", x.rests(NONE), 1);
        CHECK.due("rests(0)", x.rests(0), 0);
        CHECK.due("rests(1)", x.rests(1), NONE);
        CHECK.due("step(0)", x.step(0), 0);
        CHECK.due("step(1000)", x.step(1000), 0);
        CHECK.due("step(1001)", x.step(1001), NONE);
        CHECK.due("solutions(0)", x.solutions(0), 1);
        CHECK.due("solutions(1)", x.solutions(1), 0);
        CHECK.due("solutions(2)", x.solutions(2), 0);
        CHECK.due("steady(false)", x.steady(false), 0);
        CHECK.due("back()", x.back(), NONE);
        // A first text that is refused leaves it as it was.
        CHECK.due("board()", Check.read(x, "size 2 2;wall at 0 0;wall at 0 0;"), NONE);
        for (int what = 0; what <= 6; what++) {
            CHECK.due("has(" + what + ")", x.has(what), 0);
        }
        CHECK.due("square(0, 0, 0)", x.square(0, 0, 0), NONE);
        CHECK.due("lit(7)", x.lit(7), 0);
        CHECK.due("shadow(0, 0)", x.shadow(0, 0), NONE);
    }

    private static void fullBoard() {
        BeamBoard x = Check.board(full());
        int[] has = {12, 12, 8, 8, 6, 8, 59, NONE};
        for (int what = 0; what < has.length; what++) {
            CHECK.due("has(" + what + ")", x.has(what), has[what]);
        }
        CHECK.due("has(-1)", x.has(-1), NONE);
        for (int k = 0; k < 8; k++) {
            CHECK.due("letter(" + k + ", 0)", x.letter(k, 0), 'n');
            CHECK.due("letter(" + k + ", 1)", x.letter(k, 1), 'a' + k);
            CHECK.due("letter(" + k + ", 2)", x.letter(k, 2), NONE);
            CHECK.due("lamp " + k, x.square(0, k, 1), k);
            CHECK.due("its colour", x.square(0, k, 2), BITS[k % 4]);
            CHECK.due("eye " + k, x.square(11, k, 1), k);
            CHECK.due("mirror " + k, x.square(k, 8, 1), k);
            CHECK.due("its form", x.square(k, 8, 2), k / 4);
            CHECK.due("mover " + k, x.square(k, 9, 1), k < 6 ? k : NONE);
            CHECK.due("sees(" + k + ")", x.sees(k), BITS[k % 4]);
            CHECK.due("behind(" + k + ")", x.behind(k), 1 << k);
            CHECK.due("light to eye " + k, x.light(11, k, 1), BITS[k % 4]);
        }
        CHECK.due("letter(8, 0)", x.letter(8, 0), NONE);
        CHECK.due("sees(8)", x.sees(8), NONE);
        CHECK.due("behind(8)", x.behind(8), NONE);
        CHECK.due("lit(7)", x.lit(7), 8 * 11);
        CHECK.due("lit(1)", x.lit(1), 4 * 11);
        CHECK.due("square(11, 11, 0)", x.square(11, 11, 0), 5);
        CHECK.due("square(11, 9, 0)", x.square(11, 9, 0), 0);
        CHECK.due("steady(true)", x.steady(true), 255);
        CHECK.due("steady(false)", x.steady(false), 255);
        CHECK.due("step(1)", x.step(1), 0b011001);
        CHECK.due("set(63)", x.set(63), true);
        for (int k = 0; k < 6; k++) {
            CHECK.due("mover " + k + " open", x.square(k, 9, 2), k % 2 == 0 ? 1 : 0);
        }
        CHECK.due("set(64)", x.set(64), false);
        CHECK.due("state()", x.state(), 63);
        CHECK.due("drawn(63)", x.drawn(63), 0);
        CHECK.due("drawn(25)", x.drawn(25), 64);
        CHECK.due("drawn(64)", x.drawn(64), NONE);
    }

    /** Each mover is opened by its own bit, from the first to the last of six. */
    private static void oneByOne() {
        BeamBoard x = Check.board(full());
        for (int mover = 0; mover < 6; mover++) {
            CHECK.due("set", x.set(1 << mover), true);
            CHECK.due("state()", x.state(), 1 << mover);
            for (int k = 0; k < 6; k++) {
                int shut = k % 2 == 0 ? 0 : 1;
                CHECK.due("mover " + k + " by bit " + mover, x.square(k, 9, 2), k == mover ? 1 - shut : shut);
            }
        }
    }

    private static void turnAll() {
        BeamBoard x = Check.board(full());
        for (int k = 0; k < 8; k++) {
            CHECK.due("turn(" + k + ")", x.turn(k), k + 1);
            CHECK.due("turned()", x.turned(), (2 << k) - 1);
            CHECK.due("form of " + k, x.square(k, 8, 2), 1 - k / 4);
        }
        CHECK.due("turn(8)", x.turn(8), NONE);
        for (int k = 0; k < 8; k++) {
            CHECK.due("turn(" + k + ") back", x.turn(k), 7 - k);
            CHECK.due("form of " + k, x.square(k, 8, 2), k / 4);
        }
        CHECK.due("turned()", x.turned(), 0);
    }

    /** From each corner along each edge to the next, in the least and the largest board. */
    private static void corners() {
        for (int last = 1; last <= 11; last += 10) {
            int[][] corners = {{0, 0}, {last, 0}, {0, last}, {last, last}};
            for (int[] from : corners) {
                for (int way = 0; way < 4; way++) {
                    String name = "size " + last + " from " + from[0] + " " + from[1] + " " + WORDS[way] + ": ";
                    BeamBoard x = Check.board("size " + (last + 1) + " " + (last + 1) + ";lamp white " + WORDS[way] + " at " + from[0] + " " + from[1] + ";");
                    int column = from[0] + last * MOVE[way][0];
                    int row = from[1] + last * MOVE[way][1];
                    boolean isInside = column >= 0 && column <= last && row >= 0 && row <= last;
                    CHECK.due(name + "lit(7)", x.lit(7), isInside ? last : 0);
                    CHECK.due(name + "lit(4)", x.lit(4), isInside ? last : 0);
                    CHECK.due(name + "light at the end", x.light(column, row, way), isInside ? 7 : NONE);
                    CHECK.due(name + "none at the lamp", x.light(from[0], from[1], way), 0);
                }
            }
        }
    }

    private static void edges() {
        for (int k = 0; k < 12; k++) {
            int[][] at = {{k, 0}, {11, k}, {k, 11}, {0, k}};
            for (int way = 0; way < 4; way++) {
                String place = " at " + at[way][0] + " " + at[way][1] + ";";
                CHECK.due("none beyond the edge" + place, Check.board("size 12 12;lamp white " + WORDS[way] + place).lit(7), 0);
                int in = (way + 2) % 4;
                BeamBoard x = Check.board("size 12 12;lamp white " + WORDS[in] + place);
                CHECK.due("from the edge to the other" + place, x.lit(7), 11);
            }
        }
        BeamBoard x = Check.board("size 3 5;lamp red right at 0 0;");
        CHECK.due("square(2, 4, 0)", x.square(2, 4, 0), 0);
        CHECK.due("square(3, 0, 0)", x.square(3, 0, 0), NONE);
        CHECK.due("square(0, 5, 0)", x.square(0, 5, 0), NONE);
        CHECK.due("light(2, 4, 3)", x.light(2, 4, 3), 0);
        CHECK.due("light(3, 4, 1)", x.light(3, 4, 1), NONE);
        CHECK.due("light(2, 5, 1)", x.light(2, 5, 1), NONE);
        CHECK.due("light(2, 0, 1)", x.light(2, 0, 1), 1);
        CHECK.due("light(3, 0, 1)", x.light(3, 0, 1), NONE);
        CHECK.due("light(2, 0, 5)", x.light(2, 0, 5), NONE);
        CHECK.due("light(0, 1, -3)", x.light(0, 1, -3), NONE);
        CHECK.due("light(4, -1, 1)", x.light(4, -1, 1), NONE);
        CHECK.due("square(4, -1, 0)", x.square(4, -1, 0), NONE);
        CHECK.due("square(-3, 1, 0)", x.square(-3, 1, 0), NONE);
    }

    /** A piece in the middle, light by each way, in each form, turned or open or not: where it comes out. */
    private static void turningPieces() {
        for (int way = 0; way < 4; way++) {
            for (int form = 0; form < 2; form++) {
                for (int other = 0; other < 2; other++) {
                    for (int sort = 0; sort < 3; sort++) {
                        String piece = new String[] {"mirror " + FORMS[form], "half " + FORMS[form], "vane " + FORMS[form] + " when all"}[sort];
                        String text = "size 3 3;lamp white " + WORDS[way] + " at " + (1 - MOVE[way][0]) + " " + (1 - MOVE[way][1]) + ";" + piece + " at 1 1;";
                        BeamBoard x = Check.board(text);
                        if (other == 1 && sort < 2) {
                            x.turn(0);
                        } else if (other == 1) {
                            x.set(1);
                        }
                        int turned = TURNED[form ^ other][way];
                        for (int out = 0; out < 4; out++) {
                            int due = out == turned || sort == 1 && out == way ? 7 : 0;
                            CHECK.due(text + other + " out " + WORDS[out], x.light(1 + MOVE[out][0], 1 + MOVE[out][1], out), due);
                        }
                        CHECK.due(text + " into it", x.light(1, 1, way), 7);
                        CHECK.due(text + " lit", x.lit(7), sort == 1 ? 3 : 2);
                        CHECK.due(text + " form", x.square(1, 1, 2), form ^ other);
                    }
                }
            }
        }
    }

    private static void shutters() {
        for (int way = 0; way < 4; way++) {
            for (int open = 0; open < 2; open++) {
                BeamBoard x = Check.board("size 3 3;lamp white " + WORDS[way] + " at " + (1 - MOVE[way][0]) + " " + (1 - MOVE[way][1])
                        + ";shutter when all at 1 1;");
                x.set(open);
                CHECK.due("into a shutter", x.light(1, 1, way), 7);
                CHECK.due("behind a shutter, open " + open, x.light(1 + MOVE[way][0], 1 + MOVE[way][1], way), 7 * open);
                CHECK.due("lit(7)", x.lit(7), 1 + open);
                CHECK.due("square", x.square(1, 1, 2), open);
            }
        }
        // A prism parts each colour by itself; a glass lets through but its own.
        for (int way = 0; way < 4; way++) {
            for (int k = 0; k < 3; k++) {
                String head = "size 3 3;lamp " + COLOURS[k] + " " + WORDS[way] + " at " + (1 - MOVE[way][0]) + " " + (1 - MOVE[way][1]) + ";";
                BeamBoard x = Check.board(head + "prism at 1 1;");
                int out = (way + new int[] {0, 1, 3}[k]) % 4;
                CHECK.due(head + " out of the prism", x.light(1 + MOVE[out][0], 1 + MOVE[out][1], out), BITS[k]);
                CHECK.due(head + " lit", x.lit(7), 2);
                for (int glass = 0; glass < 4; glass++) {
                    BeamBoard y = Check.board(head + "glass " + COLOURS[glass] + " at 1 1;");
                    boolean isThrough = glass == 3 || glass == k;
                    CHECK.due(head + " through glass", y.light(1 + MOVE[way][0], 1 + MOVE[way][1], way), isThrough ? BITS[k] : 0);
                    CHECK.due(head + " lit", y.lit(7), isThrough ? 2 : 1);
                }
            }
        }
    }

    // ---- "An EYE SEES all COLOURS that come into its SQUARE, by any WAY"; "sees: the EYE SEES all of the COLOUR"

    private static void coloursTogether() {
        for (int seen = 0; seen < 8; seen++) {
            for (int k = 0; k < 4; k++) {
                String text = "size 3 4;eye a at 1 1;shutter when sees a " + COLOURS[k] + " at 0 3;shutter when not sees a " + COLOURS[k] + " at 1 3;"
                        + ((seen & 1) != 0 ? "lamp red right at 0 1;" : "") + ((seen & 2) != 0 ? "lamp green left at 2 1;" : "")
                        + ((seen & 4) != 0 ? "lamp blue down at 1 0;" : "");
                BeamBoard x = Check.board(text);
                CHECK.due(text + " sees(0)", x.sees(0), seen);
                CHECK.due(text + " step(1)", x.step(1), (seen & BITS[k]) == BITS[k] ? 1 : 2);
                CHECK.due(text + " lit in the end", x.steady(true), seen == 0 ? 0 : 1);
                x.wish(0, 1);
                CHECK.due(text + " wished lit", x.met(), seen == 0 ? 0 : 1);
                x.wish(0, 2);
                CHECK.due(text + " wished not lit", x.met(), seen == 0 ? 1 : 0);
            }
        }
        for (int way = 0; way < 4; way++) {
            BeamBoard x = Check.board("size 3 3;eye a at 1 1;lamp blue " + WORDS[way] + " at " + (1 - MOVE[way][0]) + " " + (1 - MOVE[way][1]) + ";");
            CHECK.due("the eye sees light " + WORDS[way], x.sees(0), 4);
        }
        BeamBoard four = Check.board("size 3 3;eye a at 1 1;lamp red up at 1 2;lamp red right at 0 1;lamp green down at 1 0;lamp red left at 2 1;");
        CHECK.due("the eye sees light by four ways", four.sees(0), 3);
        CHECK.due("lit(1)", four.lit(1), 1);
        CHECK.due("behind(0)", four.behind(0), 15);
        // The first and the last square count as any other; one come into by all ways once.
        BeamBoard first = Check.board("size 2 2;lamp red left at 1 0;lamp green up at 0 1;lamp blue left at 1 1;");
        CHECK.due("lit(1) of the first square", first.lit(1), 1);
        CHECK.due("lit(2) of the first square", first.lit(2), 1);
        CHECK.due("lit(4) of a lamp's square", first.lit(4), 1);
        CHECK.due("lit(7)", first.lit(7), 2);
        BeamBoard last = Check.board("size 2 2;lamp red right at 0 1;lamp green down at 1 0;");
        CHECK.due("lit(7) of the last square", last.lit(7), 1);
        CHECK.due("light(1, 1, 1)", last.light(1, 1, 1), 1);
        CHECK.due("light(1, 1, 2)", last.light(1, 1, 2), 2);
    }

    /** Eight mirrors and six vanes lead light to and fro through eight rows. */
    static String toAndFro() {
        StringBuilder text = new StringBuilder("size 12 12;lamp green right at 0 0;eye end at 0 7;");
        for (int row = 0; row < 7; row++) {
            String mirror = row < 4 ? "mirror " : "vane ";
            String test = row < 4 ? "" : " when not all";
            int column = row % 2 == 0 ? 11 : 0;
            String[] forms = {row % 2 == 0 ? "back" : "slash", row % 2 == 0 ? "slash" : "back"};
            for (int k = 0; k < 2; k++) {
                text.append(mirror).append(forms[k]).append(test).append(" at ").append(column).append(' ').append(row + k).append(';');
            }
        }
        return text.toString();
    }

    // ---- "LIGHT is as it is by THE STATE (all at once, however far)"

    private static void howeverFar() {
        BeamBoard x = Check.board(toAndFro());
        CHECK.due("sees(0)", x.sees(0), 2);
        CHECK.due("lit(2)", x.lit(2), 11 + 7 * 12);
        CHECK.due("lit(1)", x.lit(1), 0);
        CHECK.due("reach", x.reach(0, 0, 2), 11 + 7 * 12);
        CHECK.due("behind(0)", x.behind(0), 1);
        x.set(32);
        CHECK.due("sees(0) with the last vane open", x.sees(0), 0);
        CHECK.due("reach with the last vane open", x.reach(0, 0, 2), NONE);
        CHECK.due("step(1)", x.step(1), 0);
        CHECK.due("sees(0)", x.sees(0), 2);
        x.turn(7);
        CHECK.due("sees(0) with the last mirror turned", x.sees(0), 0);
        // In one step a mover knows of light at the end of a way through another row's shutter.
        BeamBoard y = Check.board("size 12 2;lamp red right at 0 0;eye a at 11 0;shutter when sees a red at 0 1;vane slash when not sees a red at 1 1;");
        CHECK.due("step(1)", y.step(1), 1);
    }

    // ---- the longest: all sixty-four states

    private static void rounds(BeamBoard x, int ahead, int length, int first, int least) {
        String name = "from " + x.state() + " ";
        CHECK.due(name + "round(0)", x.round(0), ahead);
        CHECK.due(name + "round(1)", x.round(1), length);
        CHECK.due(name + "round(2)", x.round(2), first);
        CHECK.due(name + "round(3)", x.round(3), least);
    }

    private static void countsRound() {
        BeamBoard x = Check.board(Machine.counts(6));
        rounds(x, 0, 64, 0, 0);
        for (int state = 0; state < 64; state++) {
            CHECK.due("state()", x.state(), state);
            CHECK.due("drawn", x.drawn(state), 64);
            CHECK.due("step(1)", x.step(1), (state + 1) % 64);
        }
        x.set(37);
        rounds(x, 0, 64, 37, 0);
        CHECK.due("step(64)", x.step(64), 37);
        CHECK.due("step(1000)", x.step(1000), (37 + 1000) % 64);
        CHECK.due("step(999)", x.step(999), (37 + 1999) % 64);
        CHECK.due("rests(NONE)", x.rests(NONE), 0);
        CHECK.due("rests(0)", x.rests(0), NONE);
        CHECK.due("drawn(-1)", x.drawn(-1), NONE);
        CHECK.due("drawn(64)", x.drawn(64), NONE);
        for (int n = 1; n <= 5; n++) {
            BeamBoard fewer = Check.board(Machine.counts(n));
            rounds(fewer, 0, 1 << n, 0, 0);
            CHECK.due("set(beyond)", fewer.set(1 << n), false);
            CHECK.due("set(last)", fewer.set((1 << n) - 1), true);
            CHECK.due("step(1)", fewer.step(1), 0);
        }
    }

    private static void countsUp() {
        BeamBoard x = Check.board(Machine.countsUp(6));
        rounds(x, 63, 1, 63, 63);
        CHECK.due("rests(NONE)", x.rests(NONE), 1);
        CHECK.due("rests(0)", x.rests(0), 63);
        CHECK.due("rests(1)", x.rests(1), NONE);
        CHECK.due("drawn(63)", x.drawn(63), 64);
        CHECK.due("drawn(62)", x.drawn(62), 0);
        CHECK.due("drawn(0)", x.drawn(0), 0);
        CHECK.due("step(62)", x.step(62), 62);
        rounds(x, 1, 1, 63, 63);
        CHECK.due("step(1)", x.step(1), 63);
        rounds(x, 0, 1, 63, 63);
        CHECK.due("step(1000)", x.step(1000), 63);
    }

    /** Counts to 31, then round from 32 to 63. */
    private static String countsThenRound() {
        return Machine.counts(6).replaceFirst("shutter when [^;]* at 2 5", "shutter when " + Machine.bit(5) + " or " + Machine.allOf(5) + " at 2 5");
    }

    private static void halfAhead() {
        BeamBoard x = Check.board(countsThenRound());
        rounds(x, 32, 32, 32, 32);
        CHECK.due("drawn(31)", x.drawn(31), 0);
        CHECK.due("drawn(32)", x.drawn(32), 64);
        CHECK.due("drawn(63)", x.drawn(63), 64);
        CHECK.due("steady(true)", x.steady(true), 32);
        CHECK.due("steady(false)", x.steady(false), 63);
        CHECK.due("slow(0)", x.slow(0), 0);
        CHECK.due("slow(1)", x.slow(1), 32);
        x.set(31);
        rounds(x, 1, 32, 32, 32);
        x.set(40);
        rounds(x, 0, 32, 40, 32);
        CHECK.due("met()", x.met(), 0);
    }

    /** 3 goes to 2, 2 and 1 change places, 0 rests: the first of the round is not its least. */
    private static void firstAndLeast() {
        BeamBoard x = Check.board(Machine.text("sees b red and not sees a red", "sees a red"));
        int[][] due = {{0, 1, 0, 0}, {0, 2, 1, 1}, {0, 2, 2, 1}, {1, 2, 2, 1}};
        int[] drawn = {1, 3, 3, 0};
        for (int state = 0; state < 4; state++) {
            x.set(state);
            rounds(x, due[state][0], due[state][1], due[state][2], due[state][3]);
            CHECK.due("drawn(" + state + ")", x.drawn(state), drawn[state]);
        }
        CHECK.due("rests(NONE)", x.rests(NONE), 1);
        CHECK.due("rests(0)", x.rests(0), 0);
        CHECK.due("slow(0)", x.slow(0), 3);
        CHECK.due("slow(1)", x.slow(1), 1);
        CHECK.due("steady(true)", x.steady(true), 0);
        CHECK.due("steady(false)", x.steady(false), 3);
    }

    private static void keeps() {
        BeamBoard x = Check.board(Machine.keeps(6));
        CHECK.due("rests(NONE)", x.rests(NONE), 64);
        for (int k = 0; k < 64; k++) {
            CHECK.due("rests(" + k + ")", x.rests(k), k);
            CHECK.due("drawn(" + k + ")", x.drawn(k), 1);
            BeamBoard y = Check.board(Machine.keeps(6));
            y.set(k);
            rounds(y, 0, 1, k, k);
        }
        CHECK.due("rests(64)", x.rests(64), NONE);
        CHECK.due("rests(-2)", x.rests(-2), NONE);
        CHECK.due("slow(0)", x.slow(0), 0);
        CHECK.due("slow(1)", x.slow(1), 0);
    }

    private static void withoutMovers() {
        BeamBoard x = Check.board("size 2 2;lamp red right at 0 0;eye a at 1 0;");
        rounds(x, 0, 1, 0, 0);
        CHECK.due("set(0)", x.set(0), true);
        CHECK.due("set(1)", x.set(1), false);
        CHECK.due("step(1000)", x.step(1000), 0);
        CHECK.due("rests(NONE)", x.rests(NONE), 1);
        CHECK.due("rests(0)", x.rests(0), 0);
        CHECK.due("rests(1)", x.rests(1), NONE);
        CHECK.due("drawn(0)", x.drawn(0), 1);
        CHECK.due("drawn(1)", x.drawn(1), NONE);
        CHECK.due("turn(0)", x.turn(0), NONE);
        CHECK.due("steady(true)", x.steady(true), 1);
        CHECK.due("slow(1)", x.slow(1), 0);
    }
}
