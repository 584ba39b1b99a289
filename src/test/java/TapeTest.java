/** Promises 1 to 3: a new object, feed, end. */
public final class TapeTest {
    private static final int NONE = BeamBoard.NONE;
    private static final Check CHECK = new Check("TapeTest");

    public static void main(String[] args) {
        newObject();
        feed();
        end();
        CHECK.finish();
    }

    private static void newObject() {
        BeamBoard x = new BeamBoard();
        CHECK.due("NONE", NONE, -1);
        for (int what = 0; what <= 6; what++) {
            CHECK.due("has(" + what + ")", x.has(what), 0);
        }
        CHECK.due("fault(0)", x.fault(0), 0);
        CHECK.due("fault(1)", x.fault(1), NONE);
        CHECK.due("square(0, 0, 0)", x.square(0, 0, 0), NONE);
        CHECK.due("light(0, 0, 0)", x.light(0, 0, 0), NONE);
        CHECK.due("lit(7)", x.lit(7), 0);
        CHECK.due("turned()", x.turned(), 0);
        CHECK.due("state()", x.state(), 0);
        CHECK.due("turn(0)", x.turn(0), NONE);
        CHECK.due("set(0)", x.set(0), true);
        CHECK.due("set(1)", x.set(1), false);
        CHECK.due("step(1000)", x.step(1000), 0);
        CHECK.due("round(0)", x.round(0), 0);
        CHECK.due("round(1)", x.round(1), 1);
        CHECK.due("rests(-1)", x.rests(-1), 1);
        CHECK.due("drawn(0)", x.drawn(0), 1);
        CHECK.due("met()", x.met(), 1);
        CHECK.due("fewest(false)", x.fewest(false), 0);
        CHECK.due("fewest(true)", x.fewest(true), 0);
        CHECK.due("solutions(0)", x.solutions(0), 1);
        CHECK.due("solutions(1)", x.solutions(1), 0);
        CHECK.due("near()", x.near(), 0);
        CHECK.due("needed(0, 0)", x.needed(0, 0), NONE);
        CHECK.due("shadow(0, 0)", x.shadow(0, 0), NONE);
        CHECK.due("darkest(0)", x.darkest(0), NONE);
        CHECK.due("darkest(1)", x.darkest(1), NONE);
        CHECK.due("darkest(2)", x.darkest(2), NONE);
        CHECK.due("more(0)", x.more(0), NONE);
        CHECK.due("tint(0, 0)", x.tint(0, 0), NONE);
        CHECK.due("swapped(0, 0, 1, 0)", x.swapped(0, 0, 1, 0), NONE);
        CHECK.due("reach(0, 0, 1)", x.reach(0, 0, 1), NONE);
        CHECK.due("behind(0)", x.behind(0), NONE);
        CHECK.due("sees(0)", x.sees(0), NONE);
        CHECK.due("letter(0, 0)", x.letter(0, 0), NONE);
        CHECK.due("wish(0, 1)", x.wish(0, 1), false);
        CHECK.due("rings(1)", x.rings(1), 0);
        CHECK.due("steady(true)", x.steady(true), 0);
        CHECK.due("slow(0)", x.slow(0), 0);
        CHECK.due("slow(1)", x.slow(1), 0);
        CHECK.due("back()", x.back(), NONE);
        CHECK.due("octet(0)", x.octet(0), NONE);
        CHECK.due("image()", x.image(), 6);
        CHECK.due("on()", x.on(), false);
        CHECK.due("board()", x.board(), NONE);
        CHECK.due("fault(0) of nothing", x.fault(0), 1);
        CHECK.due("fault(1) of nothing", x.fault(1), 0);
    }

    private static void feed() {
        BeamBoard x = new BeamBoard();
        for (int i = 1; i <= 80; i++) {
            CHECK.due("feed, call " + i, x.feed(0x20202020, 0x20202020, 0x20202020, 0x20202020, 0x20202020), 20 * i);
        }
        CHECK.due("feed beyond 1600", x.feed(0, 0, 0, 0, 0), NONE);
        CHECK.due("1600 are still there", x.end(1600), true);
        CHECK.due("end(1581)", x.end(1581), true);
        CHECK.due("feed to 1601", x.feed(0, 0, 0, 0, 0), NONE);
        CHECK.due("end(1580)", x.end(1580), true);
        CHECK.due("feed to 1600", x.feed(0x20202020, 0x20202020, 0x20202020, 0x20202020, 0x20202020), 1600);
        CHECK.due("board() of blanks", x.board(), NONE);
        CHECK.due("fault(1) of blanks", x.fault(1), 1600);

        // The highest byte of each number first: the byte that is no blank is found where it was put.
        for (int at = 0; at < 20; at++) {
            byte[] bytes = Check.bytes(" ".repeat(20));
            bytes[at] = (byte) 200;
            Check.feed(x, bytes, 0);
            CHECK.due("board() with a byte 200 at " + at, x.board(), NONE);
            CHECK.due("fault(0)", x.fault(0), 1);
            CHECK.due("fault(1)", x.fault(1), at);
        }
        CHECK.due("the tape is gone", x.feed(0, 0, 0, 0, 0), 20);
    }

    private static void end() {
        BeamBoard x = new BeamBoard();
        CHECK.due("end(0)", x.end(0), true);
        CHECK.due("end(1)", x.end(1), false);
        CHECK.due("end(-1)", x.end(-1), false);
        Check.feed(x, "size 2 2;wall at 0 0");
        CHECK.due("end(21)", x.end(21), false);
        CHECK.due("end(-1)", x.end(-1), false);
        CHECK.due("end(MIN)", x.end(Integer.MIN_VALUE), false);
        CHECK.due("end(MAX)", x.end(Integer.MAX_VALUE), false);
        CHECK.due("end(9)", x.end(9), true);
        CHECK.due("end(10)", x.end(10), false);
        CHECK.due("feed behind 9", x.feed(0x20202020, 0x20202020, 0x20202020, 0x20202020, 0x20202020), 29);
        CHECK.due("board()", x.board(), 1);
        CHECK.due("end(1) without a tape", x.end(1), false);
    }
}
