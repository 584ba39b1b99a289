import java.util.Arrays;

/**
 * Where the document's sentences of ways of light, rounds, settings and images (Terms, III; promises 31 to 39) end: the
 * shortest and the longest ways, rings that are as small or as large as can be, the 17th setting, each byte of an image.
 */
public final class EdgeWayTest {
    private static final int NONE = BeamBoard.NONE;
    private static final int MAX = Integer.MAX_VALUE;
    private static final int MIN = Integer.MIN_VALUE;
    private static final Check CHECK = new Check("EdgeWayTest");
    /** Seven lamps' light joins the first one's, by seven halves. */
    private static final String EIGHT_LAMPS = eightLamps();

    public static void main(String[] args) {
        reach();
        reachByTwoWays();
        behind();
        rings();
        ringsOfLight();
        steady();
        slow();
        sixteenSettings();
        theSeventeenth();
        noSettings();
        backAndOn();
        images();
        octets();
        eachByte();
        lengths();
        checkByte();
        CHECK.finish();
    }

    private static String eightLamps() {
        String[] colours = {"white", "red", "green", "blue"};
        StringBuilder text = new StringBuilder("size 9 3;lamp white right at 0 1;eye a at 8 1;eye b at 0 0;");
        for (int k = 1; k < 8; k++) {
            text.append("lamp ").append(colours[k % 4]).append(" up at ").append(k).append(" 2;half slash at ").append(k).append(" 1;");
        }
        return text.toString();
    }

    private static void reach(BeamBoard x, int lamp, int eye, int colour, int due) {
        CHECK.due("reach(" + lamp + ", " + eye + ", " + colour + ")", x.reach(lamp, eye, colour), due);
    }

    // ---- "the fewest SQUARES into which its LIGHT comes on the way ..., the EYE's counted"; "COLOUR 1, 2 or 4"

    private static void reach() {
        BeamBoard x = Check.board(EIGHT_LAMPS);
        for (int lamp = 0; lamp < 8; lamp++) {
            int colours = new int[] {7, 1, 2, 4}[lamp % 4];
            for (int colour : new int[] {1, 2, 4}) {
                reach(x, lamp, 0, colour, (colours & colour) == 0 ? NONE : lamp == 0 ? 8 : 9 - lamp);
                reach(x, lamp, 1, colour, NONE);
            }
        }
        reach(x, 8, 0, 1, NONE);
        reach(x, -1, 0, 1, NONE);
        reach(x, 32, 0, 1, NONE);
        reach(x, 0, 2, 1, NONE);
        reach(x, 0, -1, 1, NONE);
        for (int colour : new int[] {0, 3, 5, 6, 7, 8, 9, 16, -1, -4, MAX, MIN}) {
            reach(x, 0, 0, colour, NONE);
        }
        String[] lamps = {"up at 1 2", "right at 0 1", "down at 1 0", "left at 2 1"};
        for (String lamp : lamps) {
            reach(Check.board("size 3 3;lamp blue " + lamp + ";eye a at 1 1;"), 0, 0, 4, 1);
        }
        reach(Check.board(EdgeBoardTest.toAndFro()), 0, 0, 2, 95);
        BeamBoard none = Check.board("size 3 2;eye a at 2 0;");
        reach(none, 0, 0, 1, NONE);
        BeamBoard blind = Check.board("size 3 2;lamp red right at 0 0;");
        reach(blind, 0, 0, 1, NONE);
        // As the state is, not as it will be in the end.
        BeamBoard now = Check.board("size 4 2;lamp red right at 0 0;shutter when all at 2 0;eye a at 3 0;");
        reach(now, 0, 0, 1, NONE);
        now.set(1);
        reach(now, 0, 0, 1, 3);
    }

    /** The shorter of two ways, whichever of them comes in by the way with the lesser number. */
    private static void reachByTwoWays() {
        reach(Check.board("size 5 3;lamp red right at 0 1;half slash at 1 1;eye a at 4 1;mirror slash at 1 0;mirror back at 4 0;"), 0, 0, 1, 4);
        reach(Check.board("size 5 3;lamp red left at 4 1;half back at 3 1;eye a at 0 1;mirror back at 3 0;mirror slash at 0 0;"), 0, 0, 1, 4);
        reach(Check.board("size 5 3;lamp red right at 0 1;half slash at 1 1;eye a at 1 0;mirror slash at 4 1;mirror back at 4 0;"), 0, 0, 1, 2);
        reach(Check.board("size 5 3;lamp red left at 4 1;half slash at 3 1;eye a at 3 2;mirror slash at 0 1;mirror back at 0 2;"), 0, 0, 1, 2);
        reach(Check.board("size 3 5;lamp red down at 1 0;half back at 1 1;eye a at 1 4;mirror back at 2 1;mirror slash at 2 4;"), 0, 0, 1, 4);
        reach(Check.board("size 3 5;lamp red up at 1 4;half back at 1 3;eye a at 1 0;mirror back at 0 3;mirror slash at 0 0;"), 0, 0, 1, 4);
        // The first and the last square are squares as any other.
        BeamBoard corners = Check.board("size 4 4;lamp blue left at 3 0;eye a at 0 0;lamp green right at 0 3;eye b at 3 3;");
        reach(corners, 0, 0, 4, 3);
        reach(corners, 1, 1, 2, 3);
        CHECK.due("behind(0)", corners.behind(0), 1);
        CHECK.due("behind(1)", corners.behind(1), 2);
        CHECK.due("sees(0)", corners.sees(0), 4);
        CHECK.due("sees(1)", corners.sees(1), 2);
        // A way by which light crosses itself: the square counts twice.
        BeamBoard x = Check.board("size 5 6;lamp red up at 2 5;mirror back at 2 0;mirror slash at 0 0;mirror back at 0 2;eye a at 4 2;");
        reach(x, 0, 0, 1, 5 + 2 + 2 + 4);
        CHECK.due("lit(1)", x.lit(1), 12);
    }

    // ---- "the LAMPS whose LIGHT comes to it in some COLOUR, were all others dark"

    private static void behind() {
        BeamBoard x = Check.board(EIGHT_LAMPS);
        CHECK.due("behind(0)", x.behind(0), 255);
        CHECK.due("behind(1)", x.behind(1), 0);
        CHECK.due("behind(2)", x.behind(2), NONE);
        CHECK.due("behind(-1)", x.behind(-1), NONE);
        for (int mirror = 0; mirror < 7; mirror++) {
            x.turn(mirror);
            CHECK.due("behind(0) with a half turned", x.behind(0), 255 - (2 << mirror));
            x.turn(mirror);
        }
        CHECK.due("behind() of no eye", Check.board("size 2 2;lamp red right at 0 0;").behind(0), NONE);
        CHECK.due("behind(0) without lamps", Check.board("size 2 2;eye a at 0 0;").behind(0), 0);
        BeamBoard glass = Check.board("size 4 2;lamp white right at 0 0;glass blue at 1 0;eye a at 2 0;lamp red left at 3 0;");
        CHECK.due("behind(0) in some colour", glass.behind(0), 3);
    }

    // ---- "SQUARES into which its LIGHT comes by a WAY on which it goes on ... till it comes into that one so again"

    private static void rings() {
        // As small as can be, and all round the edge.
        String small = "size 3 3;lamp white right at 0 1;half slash at 1 1;mirror back at 2 1;mirror slash at 2 2;mirror back at 1 2;";
        String large = "size 12 12;lamp green left at 1 5;half slash at 0 5;mirror back at 0 11;mirror slash at 11 11;mirror back at 11 0;mirror slash at 0 0;";
        int[] colours = {1, 2, 4};
        for (int colour : colours) {
            CHECK.due("a small ring", Check.board(small).rings(colour), 4);
            CHECK.due("a large ring", Check.board(large).rings(colour), colour == 2 ? 44 : 0);
            CHECK.due("without light", Check.board(small.replace("lamp white right", "wall")).rings(colour), 0);
            CHECK.due("without squares", new BeamBoard().rings(colour), 0);
        }
        for (int colour : new int[] {0, 3, 5, 6, 7, 8, -1, MAX, MIN}) {
            CHECK.due("rings(" + colour + ")", Check.board(small).rings(colour), NONE);
        }
        CHECK.due("lit(2)", Check.board(large).lit(2), 44);
        // A square that the ring crosses counts once; what leaves the ring, and what comes to it, doesn't.
        BeamBoard eight = Check.board("size 5 6;lamp red up at 2 5;half back at 2 4;mirror back at 4 2;mirror slash at 4 4;mirror back at 2 0;"
                + "mirror slash at 0 0;mirror back at 0 2;");
        CHECK.due("a ring that crosses itself", eight.rings(1), 15);
        CHECK.due("lit(1)", eight.lit(1), 17);
        BeamBoard far = Check.board("size 8 3;lamp white right at 0 1;half slash at 5 1;mirror back at 7 1;mirror slash at 7 2;mirror back at 5 2;");
        CHECK.due("a ring with a way to it", far.rings(4), 6);
        // One mirror turned, and it is none.
        for (int mirror = 0; mirror < 4; mirror++) {
            BeamBoard x = Check.board(small);
            x.turn(mirror);
            CHECK.due("a ring with mirror " + mirror + " turned", x.rings(1), 0);
        }
    }

    /** What stands in a ring: glass and prisms by their colours, what stops light, movers as the state is. */
    private static void ringsOfLight() {
        String ring = "size 4 3;lamp white right at 0 0;half slash at 1 0;mirror back at 3 0;mirror slash at 3 2;mirror back at 1 2;";
        String[] pieces = {"glass red", "glass green", "glass blue", "glass white", "prism", "wall", "eye a", "lamp red right", "shutter when all"};
        int[][] due = {{8, 0, 0}, {0, 8, 0}, {0, 0, 8}, {8, 8, 8}, {8, 0, 0}, {0, 0, 0}, {0, 0, 0}, {0, 0, 0}, {0, 0, 0}};
        for (int i = 0; i < pieces.length; i++) {
            BeamBoard x = Check.board(ring + pieces[i] + " at 2 2;");
            for (int k = 0; k < 3; k++) {
                CHECK.due("a ring with " + pieces[i], x.rings(1 << k), due[i][k]);
            }
        }
        BeamBoard open = Check.board(ring + "shutter when all at 2 2;");
        open.set(1);
        CHECK.due("a ring with an open shutter", open.rings(2), 8);
        // The ring's last corner is a vane.
        BeamBoard vane = Check.board(ring.replace("mirror back at 1 2", "vane slash when all at 1 2"));
        CHECK.due("a vane of the wrong form", vane.rings(1), 0);
        vane.set(1);
        CHECK.due("a vane that is open", vane.rings(1), 8);
    }

    // ---- "ALWAYS and SOMETIMES: EYES that are LIT in all, in some STATES of the ROUND"

    private static void steady(String text, int always, int sometimes) {
        BeamBoard x = Check.board(text);
        CHECK.due("steady(true)", x.steady(true), always);
        CHECK.due("steady(false)", x.steady(false), sometimes);
    }

    private static void steady() {
        steady(Machine.counts(6), 0, 63);
        steady(Machine.countsUp(6), 63, 63);
        steady(Machine.keeps(6), 0, 0);
        steady(EdgeBoardTest.full(), 255, 255);
        steady(Machine.counts(2).replace("size 4 2;", "size 4 4;eye h at 3 3;lamp red right at 0 3;"), 1, 7);
        steady("size 2 2;", 0, 0);
        steady("size 2 2;eye a at 0 0;shutter when not all at 1 0;", 0, 0);
        // What is lit on the way to the round, and not in it.
        BeamBoard x = Check.board(Machine.text("not all", "sees a red"));
        x.set(3);
        CHECK.due("sees(0)", x.sees(0), 1);
        CHECK.due("steady(false)", x.steady(false), 0);
    }

    // ---- "the STATE, the least of like ones, FROM which it takes most STEPS to the first STATE of the ROUND"

    private static void slow(String text, int state, int steps) {
        BeamBoard x = Check.board(text);
        int[] due = {state, steps, NONE};
        for (int at = 0; at < 1 << x.has(4); at += 5) {
            x.set(at);
            for (int what = 0; what < 3; what++) {
                CHECK.due("slow(" + what + ") at " + at, x.slow(what), due[what]);
            }
        }
        CHECK.due("slow(-1)", x.slow(-1), NONE);
    }

    private static void slow() {
        slow(Machine.counts(6), 0, 0);
        slow(Machine.keeps(6), 0, 0);
        slow(Machine.countsUp(6), 0, 63);
        slow(Machine.text("not all", "sees a red", "sees b red"), 1, 3);
        slow(Machine.text("all", "all"), 0, 1);
        slow(Machine.text("sees b red", "sees c red", "not all"), 4, 3);
        slow(Machine.text("sees b red and not sees a red", "sees a red"), 3, 1);
        slow("size 2 2;", 0, 0);
    }

    private static void setting(BeamBoard x, int turned, int state) {
        CHECK.due("turned()", x.turned(), turned);
        CHECK.due("state()", x.state(), state);
    }

    private static String movers() {
        return Machine.counts(6).replace("size 4 6;", "size 4 8;mirror slash at 0 7;half back at 1 7;");
    }

    /** The sixteen settings with states 0 to 15, the state now 16. */
    private static BeamBoard sixteen() {
        BeamBoard x = Check.board(movers());
        for (int state = 1; state <= 16; state++) {
            x.set(state);
        }
        return x;
    }

    // ---- "up to 16 settings (MIRRORS TURNED, THE STATE) ahead of turn(), set(), step() with which something became otherwise"

    private static void sixteenSettings() {
        for (int n = 0; n <= 16; n++) {
            BeamBoard x = Check.board(movers());
            for (int i = 0; i < n; i++) {
                x.turn(i % 2);
            }
            for (int left = n - 1; left >= 0; left--) {
                CHECK.due("back() of " + n, x.back(), left);
            }
            CHECK.due("back() beyond", x.back(), NONE);
            setting(x, 0, 0);
        }
        BeamBoard x = sixteen();
        for (int left = 15; left >= 0; left--) {
            CHECK.due("back()", x.back(), left);
            setting(x, 0, left);
        }
        CHECK.due("back()", x.back(), NONE);
        BeamBoard steps = Check.board(movers());
        for (int i = 0; i < 16; i++) {
            steps.step(1);
        }
        for (int left = 15; left >= 0; left--) {
            CHECK.due("back() behind steps", steps.back(), left);
            setting(steps, 0, left);
        }
        CHECK.due("back()", steps.back(), NONE);
    }

    // ---- "the oldest goes for a 17th"

    private static void theSeventeenth() {
        for (int kind = 0; kind < 3; kind++) {
            BeamBoard x = sixteen();
            if (kind == 0) {
                x.turn(1);
            } else if (kind == 1) {
                x.set(60);
            } else {
                x.step(9);
            }
            for (int left = 15; left >= 0; left--) {
                CHECK.due("back() behind a 17th", x.back(), left);
                setting(x, 0, left + 1);
            }
            CHECK.due("back() beyond", x.back(), NONE);
            setting(x, 0, 1);
        }
        // What changes nothing is no 17th: refused, or the same again.
        BeamBoard same = sixteen();
        same.set(16);
        same.set(64);
        same.set(-1);
        same.step(0);
        same.step(64);
        same.step(960);
        same.step(1001);
        same.step(-1);
        same.turn(2);
        same.turn(-1);
        same.wish(0, 1);
        same.image();
        same.end(0);
        same.board();
        same.on();
        for (int left = 15; left >= 0; left--) {
            CHECK.due("back() without a 17th", same.back(), left);
            setting(same, 0, left);
        }
        CHECK.due("back()", same.back(), NONE);
        // Forty, of which the last sixteen are left.
        BeamBoard forty = Check.board(movers());
        for (int i = 1; i <= 40; i++) {
            forty.set(i);
        }
        for (int left = 15; left >= 0; left--) {
            CHECK.due("back() of forty", forty.back(), left);
            setting(forty, 0, left + 24);
        }
        CHECK.due("back()", forty.back(), NONE);
    }

    // ---- "board(), on() have none any more"

    private static void noSettings() {
        BeamBoard x = sixteen();
        CHECK.due("board()", Check.read(x, movers()), 21);
        CHECK.due("back() of another board", x.back(), NONE);
        x.turn(0);
        CHECK.due("back()", x.back(), 0);
        BeamBoard y = sixteen();
        Check.feed(y, ImageTest.checked(2, 6, 6, 3, 7, 0, 0, 0, 0, 0, 0), 0);
        CHECK.due("on()", y.on(), true);
        CHECK.due("back() behind on()", y.back(), NONE);
        setting(y, 3, 7);
        y.set(1);
        CHECK.due("back()", y.back(), 0);
        setting(y, 3, 7);
    }

    /** Settings that were gone back to are gone; others may come in their place; wishes stay as they are. */
    private static void backAndOn() {
        BeamBoard x = sixteen();
        for (int i = 0; i < 10; i++) {
            x.back();
        }
        setting(x, 0, 6);
        x.turn(0);
        x.turn(1);
        CHECK.due("back()", x.back(), 7);
        setting(x, 1, 6);
        CHECK.due("back()", x.back(), 6);
        setting(x, 0, 6);
        CHECK.due("back()", x.back(), 5);
        setting(x, 0, 5);
        BeamBoard y = Check.board("size 3 2;lamp red right at 0 0;mirror back at 1 0;eye a at 1 1;");
        y.wish(0, 1);
        y.turn(0);
        y.wish(0, 2);
        CHECK.due("met()", y.met(), 1);
        CHECK.due("back()", y.back(), 0);
        CHECK.due("the wish stays", y.met(), 0);
        CHECK.due("sees(0)", y.sees(0), 1);
    }

    // ---- AN IMAGE: as short and as long as can be

    private static void image(BeamBoard x, int... bytes) {
        byte[] due = ImageTest.checked(bytes);
        CHECK.due("image()", x.image(), due.length);
        for (int k = 0; k < due.length; k++) {
            CHECK.due("octet(" + k + ")", x.octet(k), due[k] & 255);
        }
        CHECK.due("octet behind the last", x.octet(due.length), NONE);
        CHECK.due("octet(-1)", x.octet(-1), NONE);
    }

    private static void images() {
        image(new BeamBoard(), 0, 0, 0, 0, 0);
        image(Check.board("size 12 12;"), 0, 0, 0, 0, 0);
        for (int eyes = 1; eyes <= 8; eyes++) {
            StringBuilder text = new StringBuilder("size 12 12;");
            int[] due = new int[5 + eyes];
            due[2] = eyes;
            for (int eye = 0; eye < eyes; eye++) {
                text.append("eye n").append((char) ('a' + eye)).append(" at ").append(eye).append(" 0;");
                due[5 + eye] = (eye + eyes) % 3;
            }
            BeamBoard x = Check.board(text.toString());
            for (int eye = 0; eye < eyes; eye++) {
                x.wish(eye, (eye + eyes) % 3);
            }
            image(x, due);
        }
        BeamBoard full = Check.board(EdgeBoardTest.full());
        image(full, 8, 6, 8, 0, 0, 0, 0, 0, 0, 0, 0, 0, 0);
        for (int mirror = 0; mirror < 8; mirror++) {
            full.turn(mirror);
        }
        full.set(63);
        for (int eye = 0; eye < 8; eye++) {
            full.wish(eye, 2);
        }
        image(full, 8, 6, 8, 255, 63, 2, 2, 2, 2, 2, 2, 2, 2);
        full.turn(0);
        full.set(32);
        full.wish(7, 1);
        full.wish(0, 0);
        image(full, 8, 6, 8, 254, 32, 0, 2, 2, 2, 2, 2, 2, 1);
        Check.feed(full, ImageTest.checked(8, 6, 8, 255, 63, 1, 2, 0, 1, 2, 0, 1, 2), 0);
        CHECK.due("on()", full.on(), true);
        image(full, 8, 6, 8, 255, 63, 1, 2, 0, 1, 2, 0, 1, 2);
    }

    // ---- "Byte k of the latest image(); NONE if there is none such"

    private static void octets() {
        BeamBoard x = Check.board(EdgeBoardTest.full());
        for (int k : new int[] {-1, 0, 1, 13, 14, MAX, MIN}) {
            CHECK.due("octet(" + k + ") ahead of any", x.octet(k), NONE);
        }
        CHECK.due("image()", x.image(), 14);
        CHECK.due("octet(12)", x.octet(12), 0);
        CHECK.due("octet(13)", x.octet(13) >= 0, true);
        x.wish(7, 1);
        CHECK.due("a wish comes later", x.octet(12), 0);
        CHECK.due("another board", Check.read(x, "size 2 2;eye a at 0 0;"), 2);
        CHECK.due("the image is of the first", x.octet(0), 8);
        CHECK.due("image()", x.image(), 7);
        CHECK.due("octet(0)", x.octet(0), 0);
        CHECK.due("octet(2)", x.octet(2), 1);
        CHECK.due("octet(6)", x.octet(6) >= 0, true);
        for (int k : new int[] {7, 12, 13, 14, -1, MAX, MIN}) {
            CHECK.due("octet(" + k + ") of a shorter image", x.octet(k), NONE);
        }
    }

    // ---- "It is taken, if it is such, of a BOARD with as many"

    private static final String SMALL = "size 3 3;mirror slash at 0 0;half back at 1 0;shutter when sees a red at 2 0;eye a at 0 1;eye b at 1 1;";

    private static boolean on(BeamBoard x, byte... bytes) {
        Check.feed(x, bytes, 0);
        boolean isTaken = x.on();
        CHECK.due("the tape is gone", x.end(1), false);
        return isTaken;
    }

    /** Each byte with each value, the check byte as it must be then: two mirrors, a mover and two eyes. */
    private static void eachByte() {
        int[] low = {2, 1, 2, 0, 0, 0, 0};
        int[] high = {2, 1, 2, 3, 1, 2, 2};
        for (int at = 0; at < 7; at++) {
            for (int value = 0; value < 256; value++) {
                BeamBoard x = Check.board(SMALL);
                x.turn(0);
                x.wish(0, 2);
                int[] bytes = {2, 1, 2, 2, 1, 1, 0};
                bytes[at] = value;
                boolean isTaken = value >= low[at] && value <= high[at];
                CHECK.due("on() of " + Arrays.toString(bytes), on(x, ImageTest.checked(bytes)), isTaken);
                if (isTaken) {
                    image(x, bytes);
                    CHECK.due("back()", x.back(), NONE);
                } else {
                    image(x, 2, 1, 2, 1, 0, 2, 0);
                    CHECK.due("back()", x.back(), 0);
                }
            }
        }
        // Nothing to be turned, opened, wished: the bytes are there, and 0.
        for (int at = 3; at <= 4; at++) {
            for (int value = 0; value < 256; value++) {
                int[] bytes = {0, 0, 0, 0, 0};
                bytes[at] = value;
                CHECK.due("on() of " + Arrays.toString(bytes), on(Check.board("size 2 2;"), ImageTest.checked(bytes)), value == 0);
            }
        }
        // All that can be of each: eight mirrors have no byte too large.
        for (int value = 0; value < 256; value++) {
            byte[] mirrors = ImageTest.checked(8, 6, 8, value, 0, 0, 0, 0, 0, 0, 0, 0, 0);
            byte[] movers = ImageTest.checked(8, 6, 8, 0, value, 0, 0, 0, 0, 0, 0, 0, 0);
            BeamBoard x = Check.board(EdgeBoardTest.full());
            CHECK.due("on() with mirrors " + value, on(x, mirrors), true);
            CHECK.due("turned()", x.turned(), value);
            CHECK.due("on() with movers " + value, on(x, movers), value < 64);
            CHECK.due("state()", x.state(), value < 64 ? value : 0);
        }
    }

    private static void lengths() {
        byte[] image = ImageTest.checked(2, 1, 2, 3, 1, 2, 2);
        for (int length = 0; length <= 40; length++) {
            BeamBoard x = Check.board(SMALL);
            CHECK.due("on() of " + length + " bytes", on(x, Arrays.copyOf(image, length)), length == image.length);
            CHECK.due("turned()", x.turned(), length == image.length ? 3 : 0);
            // As many bytes, the last of them the check of those ahead: of another board.
            byte[] zeros = ImageTest.checked(new int[length]);
            CHECK.due("on() of zeros", on(x, zeros), false);
            CHECK.due("on() of a new object", on(new BeamBoard(), zeros), length == 5);
        }
        BeamBoard x = Check.board(SMALL);
        Check.feed(x, image, 0);
        CHECK.due("end(7)", x.end(7), true);
        CHECK.due("on() of an image cut short", x.on(), false);
        // An image is no text, and a text no image.
        Check.feed(x, image, 0);
        CHECK.due("board() of an image", x.board(), NONE);
        CHECK.due("fault(0)", x.fault(0), 1);
        CHECK.due("fault(1)", x.fault(1), 0);
        CHECK.due("on() when the tape is gone", x.on(), false);
        Check.feed(x, SMALL);
        CHECK.due("on() of a text", x.on(), false);
        CHECK.due("board() when the tape is gone", x.board(), NONE);
        CHECK.due("has(3)", x.has(3), 2);
    }

    // ---- "last a byte: all ahead from 13 on, c = (3 c + it) mod 227"

    private static void checkByte() {
        boolean[] met = new boolean[227];
        for (int i = 0; i < 72; i++) {
            int[] bytes = {2, 1, 2, i % 4, i / 4 % 2, i / 8 % 3, i / 24 % 3};
            byte[] image = ImageTest.checked(bytes);
            int check = image[7] & 255;
            if (!met[check]) {
                met[check] = true;
                for (int value = 0; value < 256; value++) {
                    image[7] = (byte) value;
                    CHECK.due("on() with check " + value + ", due is " + check, on(Check.board(SMALL), image), value == check);
                }
            }
        }
        // As much mod 227 is not the same byte: those below 29 have another one like them.
        int alike = 0;
        for (int turned = 0; turned < 256; turned++) {
            byte[] image = ImageTest.checked(8, 6, 8, turned, 63, 0, 1, 2, 0, 1, 2, 0, 1);
            int check = image[13] & 255;
            CHECK.due("the check byte is below 227", check < 227, true);
            BeamBoard x = Check.board(EdgeBoardTest.full());
            if (check + 227 < 256) {
                alike++;
                image[13] = (byte) (check + 227);
                CHECK.due("on() with check " + check + " and 227", on(x, image), false);
                CHECK.due("turned()", x.turned(), 0);
                image[13] = (byte) check;
            }
            CHECK.due("on() with check " + check, on(x, image), true);
            CHECK.due("turned()", x.turned(), turned);
        }
        CHECK.due("images with such a check", alike > 20, true);
        // 13, 39 + 2, 123 + 1, 372 + 2 - 227, ... by hand: two mirrors, a mover, two eyes, nothing turned or wished.
        int[] byHand = {13, 41, 124, 147, 441 - 227, 642 - 2 * 227, 564 - 2 * 227, 330 - 227};
        BeamBoard x = Check.board(SMALL);
        x.image();
        CHECK.due("octet(7)", x.octet(7), byHand[7]);
    }
}
