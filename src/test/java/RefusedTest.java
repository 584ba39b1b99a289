import java.util.List;
import java.util.function.ToIntFunction;

/** Calls that are refused, and calls that only tell: what they answer, and that all is behind them as it was ahead. */
public final class RefusedTest {
    private static final int NONE = BeamBoard.NONE;
    private static final int MAX = Integer.MAX_VALUE;
    private static final int MIN = Integer.MIN_VALUE;
    private static final Check CHECK = new Check("RefusedTest");
    private static final String TEXT = "size 5 4;lamp white right at 0 1;prism at 1 1;half slash at 2 1;glass red at 3 1;eye a at 4 1;"
            + "eye b at 2 0;vane back when not sees b red at 1 3;mirror slash at 2 3;shutter when sees a red at 3 3;eye c at 4 3;";
    private static final String OTHER = "size 3 3;lamp red right at 0 0;shutter when not sees q red at 1 0;eye q at 2 0;"
            + "mirror slash at 1 2;half back at 2 2;glass blue at 0 1;";
    private static final String LEFT_ON_TAPE = "size 2 2;wall at 9 0";

    public static void main(String[] args) {
        twinsAreAlike();
        tape();
        moves();
        odd();
        texts();
        images();
        tells();
        nothingWas();
        nothingLeft();
        CHECK.finish();
    }

    /** An object in which something is of all that it can hold. */
    private static BeamBoard start() {
        BeamBoard x = Check.board(TEXT);
        x.turn(0);
        x.set(1);
        x.turn(1);
        x.wish(0, 1);
        x.wish(1, 2);
        x.wish(2, 2);
        x.image();
        x.turn(1);
        x.set(3);
        Check.feed(x, LEFT_ON_TAPE);
        return x;
    }

    private static void alike(String name, BeamBoard x, BeamBoard y) {
        List<String> is = Observed.of(x);
        List<String> due = Observed.of(y);
        CHECK.due(name + ": as many answers", is.size(), due.size());
        for (int i = 0; i < Math.min(is.size(), due.size()); i++) {
            CHECK.due(name + ": " + is.get(i) + " behind it, " + due.get(i) + " without", is.get(i).equals(due.get(i)), true);
        }
    }

    /** The call answers so, and changes nothing. */
    private static void idle(String name, int due, ToIntFunction<BeamBoard> call) {
        BeamBoard x = start();
        CHECK.due(name, call.applyAsInt(x), due);
        alike(name, x, start());
    }

    /** The call takes the tape away, and changes nothing else. */
    private static void takesTape(String name, byte[] bytes, ToIntFunction<BeamBoard> call, int due) {
        BeamBoard x = start();
        Check.feed(x, new byte[0], 0);
        Check.feed(x, bytes, 0);
        CHECK.due(name, call.applyAsInt(x), due);
        BeamBoard y = start();
        y.end(0);
        alike(name, x, y);
    }

    private static int bit(boolean answer) {
        return answer ? 1 : 0;
    }

    private static void twinsAreAlike() {
        alike("nothing called", start(), start());
        List<String> now = Observed.of(start());
        BeamBoard turned = start();
        turned.turn(0);
        CHECK.due("what is otherwise is seen", now.equals(Observed.of(turned)), false);
        BeamBoard shorter = start();
        shorter.end(8);
        CHECK.due("another tape is seen", now.equals(Observed.of(shorter)), false);
    }

    private static void tape() {
        for (int n : new int[] {-1, LEFT_ON_TAPE.length() + 1, 1600, 1601, MAX, MIN}) {
            idle("end(" + n + ")", 0, x -> bit(x.end(n)));
        }
        idle("end(as many)", 1, x -> bit(x.end(LEFT_ON_TAPE.length())));
        for (int length = 1580; length <= 1600; length++) {
            String text = LEFT_ON_TAPE + " ".repeat(length - LEFT_ON_TAPE.length());
            BeamBoard x = start();
            Check.feed(x, Check.bytes(text.substring(LEFT_ON_TAPE.length())), LEFT_ON_TAPE.length());
            x.end(length);
            int last = length == 1580 ? 1600 : NONE;
            CHECK.due("feed() behind " + length, x.feed(0x20202020, 0x20202020, 0x20202020, 0x20202020, 0x3f3f3f3f), last);
            CHECK.due("one byte more than there are", x.end(length == 1580 ? 1601 : length + 1), false);
            CHECK.due("as many as there were", x.end(length), true);
            CHECK.due("the text stays", x.board(), NONE);
            CHECK.due("its fault", x.fault(0), 2);
            CHECK.due("its place", x.fault(1), LEFT_ON_TAPE.indexOf('9'));
        }
        // What is cut off does not come back, and what is refused leaves no byte.
        BeamBoard x = new BeamBoard();
        Check.feed(x, "size 2 2;????");
        CHECK.due("end(9)", x.end(9), true);
        CHECK.due("end(10)", x.end(10), false);
        CHECK.due("feed()", x.feed(0x20202020, 0x20202020, 0x20202020, 0x20202020, 0x20202020), 29);
        CHECK.due("end(20)", x.end(20), true);
        Check.feed(x, Check.bytes(" ".repeat(1580)), 20);
        CHECK.due("end(1591)", x.end(1591), true);
        CHECK.due("feed()", x.feed(0x3f3f3f3f, 0x3f3f3f3f, 0x3f3f3f3f, 0x3f3f3f3f, 0x3f3f3f3f), NONE);
        CHECK.due("board()", x.board(), 1);
    }

    private static void moves() {
        for (int mirror : new int[] {-1, 2, 3, 8, 31, 32, 33, MAX, MIN}) {
            idle("turn(" + mirror + ")", NONE, x -> x.turn(mirror));
        }
        for (int state : new int[] {-1, 4, 5, 7, 8, 64, 256, 1 << 30, MAX, MIN, MIN + 1, -4}) {
            idle("set(" + state + ")", 0, x -> bit(x.set(state)));
            idle("drawn(" + state + ")", NONE, x -> x.drawn(state));
        }
        idle("set(as it is)", 1, x -> bit(x.set(3)));
        for (int n : new int[] {-1, -2, 1001, 1002, 2000, MAX, MIN}) {
            idle("step(" + n + ")", NONE, x -> x.step(n));
        }
        idle("step(0)", 3, x -> x.step(0));
        for (int odd : new int[] {-1, 3, 4, 8, 31, 32, 33, MAX, MIN}) {
            idle("wish(" + odd + ", 1)", 0, x -> bit(x.wish(odd, 1)));
            idle("wish(" + odd + ", 0)", 0, x -> bit(x.wish(odd, 0)));
            idle("wish(0, " + odd + ")", 0, x -> bit(x.wish(0, odd)));
            idle("wish(2, " + odd + ")", 0, x -> bit(x.wish(2, odd)));
        }
        idle("wish(as it is)", 1, x -> bit(x.wish(0, 1)));
    }

    /** Each argument of each call that tells, odd by itself, all others as they may be. */
    private static void odd() {
        for (int no : new int[] {-1, 100, MAX, MIN}) {
            idle("fault", NONE, x -> x.fault(no));
            idle("has", NONE, x -> x.has(no));
            idle("letter", NONE, x -> x.letter(no, 0));
            idle("letter", NONE, x -> x.letter(0, no));
            idle("square", NONE, x -> x.square(no, 1, 0));
            idle("square", NONE, x -> x.square(0, no, 0));
            idle("square", NONE, x -> x.square(0, 1, no));
            idle("light", NONE, x -> x.light(no, 1, 1));
            idle("light", NONE, x -> x.light(1, no, 1));
            idle("light", NONE, x -> x.light(1, 1, no));
            idle("lit", NONE, x -> x.lit(no));
            idle("sees", NONE, x -> x.sees(no));
            idle("round", NONE, x -> x.round(no));
            idle("rests", NONE, x -> x.rests(no == -1 ? -2 : no));
            idle("needed", NONE, x -> x.needed(no, 1));
            idle("needed", NONE, x -> x.needed(0, no));
            idle("shadow", NONE, x -> x.shadow(no, 0));
            idle("shadow", NONE, x -> x.shadow(0, no));
            idle("darkest", NONE, x -> x.darkest(no));
            idle("more", NONE, x -> x.more(no));
            idle("solutions", NONE, x -> x.solutions(no));
            idle("tint", NONE, x -> x.tint(no, 1));
            idle("tint", NONE, x -> x.tint(3, no));
            idle("swapped", NONE, x -> x.swapped(no, 0, 1, 1));
            idle("swapped", NONE, x -> x.swapped(0, no, 1, 1));
            idle("swapped", NONE, x -> x.swapped(0, 0, no, 1));
            idle("swapped", NONE, x -> x.swapped(0, 0, 1, no));
            idle("reach", NONE, x -> x.reach(no, 0, 1));
            idle("reach", NONE, x -> x.reach(0, no, 1));
            idle("reach", NONE, x -> x.reach(0, 0, no));
            idle("behind", NONE, x -> x.behind(no));
            idle("rings", NONE, x -> x.rings(no));
            idle("slow", NONE, x -> x.slow(no));
            idle("octet", NONE, x -> x.octet(no));
        }
    }

    private static void texts() {
        String[] wrong = {
            "", " \n", "size", "wall at 0 0;", "size 1 2;", "size 2 13;", "size 5 4;wall at 5 0;", "size 5 4;eye a at 0 0;eye a at 1 0;",
            "size 5 4;wall at 0 0;wall at 0 0;", "size 5 4;shutter when [[[[[[[all]]]]]]] at 0 0;", TEXT + "eye a at 0 0;",
            TEXT + "vane slash when sees d red at 0 0;", TEXT + "size 5 4;", TEXT + "?", TEXT.substring(0, TEXT.length() - 1),
            "size 12 12;" + "lamp red up at 0 0;".repeat(9), OTHER + "shutter when all at 2 1;wall at 2 1;",
        };
        for (String text : wrong) {
            takesTape("board() of " + text, Check.bytes(text), BeamBoard::board, NONE);
        }
    }

    private static void images() {
        // Two mirrors, two movers, three eyes; the check bytes are worked out from 13 on, three times what was and the byte.
        int[][] wrong = {
            {}, {13}, {2, 2, 3, 0, 0, 0, 0, 0}, {1, 2, 3, 0, 0, 0, 0, 0}, {3, 2, 3, 0, 0, 0, 0, 0}, {2, 1, 3, 0, 0, 0, 0, 0},
            {2, 3, 3, 0, 0, 0, 0, 0}, {2, 2, 2, 0, 0, 0, 0, 0}, {2, 2, 4, 0, 0, 0, 0, 0}, {2, 2, 3, 4, 0, 0, 0, 0},
            {2, 2, 3, 0, 4, 0, 0, 0}, {2, 2, 3, 0, 0, 3, 0, 0}, {2, 2, 3, 0, 0, 0, 3, 0}, {2, 2, 3, 0, 0, 0, 0, 3},
            {2, 2, 3, 255, 0, 0, 0, 0}, {2, 2, 3, 0, 255, 0, 0, 0}, {2, 2, 3, 0, 0, 0, 0, 255}, {2, 2, 3, 0, 0, 0, 0},
            {2, 2, 3, 0, 0, 0, 0, 0, 0}, {2, 2, 2, 0, 0, 0, 0}, {2, 2, 4, 0, 0, 0, 0, 0, 0},
        };
        for (int i = 0; i < wrong.length; i++) {
            // The third one alone is spoilt in its check.
            byte[] image = ImageTest.checked(wrong[i]);
            if (i == 2) {
                image[image.length - 1]++;
            }
            takesTape("on() of wrong image " + i, image, x -> bit(x.on()), 0);
        }
        takesTape("on() without a tape", new byte[0], x -> bit(x.on()), 0);
        takesTape("on() of a text", Check.bytes(TEXT), x -> bit(x.on()), 0);
    }

    private static void tells() {
        idle("fault", 0, x -> x.fault(0));
        idle("has", 11, x -> x.has(6) + 1);
        idle("letter", 'c', x -> x.letter(2, 0));
        idle("square", 1, x -> x.square(2, 1, 2));
        idle("light", 7, x -> x.light(1, 1, 1));
        idle("turned, state", 4, x -> x.turned() + x.state());
        idle("octet", 2, x -> x.octet(0));
        List<ToIntFunction<BeamBoard>> calls = List.of(x -> x.lit(7), x -> x.sees(0), x -> x.round(0), x -> x.round(3), x -> x.rests(0),
                x -> x.drawn(0), x -> x.met(), x -> x.fewest(false), x -> x.fewest(true), x -> x.shadow(3, 0), x -> x.darkest(0),
                x -> x.more(0), x -> x.solutions(0), x -> x.near(), x -> x.tint(3, 1), x -> x.reach(0, 0, 1), x -> x.behind(0),
                x -> x.rings(1), x -> x.steady(true), x -> x.slow(0));
        for (int i = 0; i < calls.size(); i++) {
            ToIntFunction<BeamBoard> call = calls.get(i);
            idle("telling call " + i, call.applyAsInt(start()), call);
        }
        // Every square taken away, darkened, and swapped with every other.
        idle("needed, shadow, tint of all squares", 0, x -> {
            for (int place = 0; place < 20; place++) {
                x.needed(place % 5, place / 5);
                x.shadow(place % 5, place / 5);
                x.tint(place % 5, place / 5);
            }
            return 0;
        });
        for (int place = 0; place < 20; place++) {
            int column = place % 5;
            int row = place / 5;
            idle("swapped with all others", 0, x -> {
                for (int other = 0; other < 20; other++) {
                    x.swapped(column, row, other % 5, other / 5);
                }
                return 0;
            });
        }
    }

    /** Where there are no settings that were, back() changes nothing. */
    private static void nothingWas() {
        BeamBoard x = Check.board(TEXT);
        CHECK.due("back() of a new board", x.back(), NONE);
        alike("back() of a new board", x, Check.board(TEXT));
        BeamBoard y = start();
        for (int left = 4; left >= 0; left--) {
            CHECK.due("back()", y.back(), left);
        }
        CHECK.due("back() beyond the first", y.back(), NONE);
        CHECK.due("back() beyond the first", y.back(), NONE);
        CHECK.due("turned()", y.turned(), 0);
        CHECK.due("state()", y.state(), 0);
    }

    /** Nothing is left of what was ahead of a board that is taken; of an image, nothing but the board. */
    private static void nothingLeft() {
        BeamBoard x = start();
        x.end(0);
        Check.read(x, OTHER);
        BeamBoard y = Check.board(OTHER);
        x.image();
        y.image();
        alike("another board", x, y);
        BeamBoard same = start();
        same.end(0);
        Check.read(same, TEXT);
        BeamBoard first = Check.board(TEXT);
        same.image();
        first.image();
        alike("the same board again", same, first);

        BeamBoard z = start();
        z.end(0);
        Check.feed(z, ImageTest.checked(2, 2, 3, 2, 1, 2, 0, 1), 0);
        CHECK.due("on()", z.on(), true);
        BeamBoard w = Check.board(TEXT);
        w.turn(1);
        w.set(1);
        w.wish(0, 2);
        w.wish(2, 1);
        BeamBoard v = Check.board(TEXT);
        Check.feed(v, ImageTest.checked(2, 2, 3, 2, 1, 2, 0, 1), 0);
        CHECK.due("on()", v.on(), true);
        CHECK.due("image()", z.image(), 9);
        CHECK.due("image()", w.image(), 9);
        CHECK.due("image()", v.image(), 9);
        for (int k = 0; k < 9; k++) {
            CHECK.due("octet(" + k + ")", z.octet(k), w.octet(k));
        }
        alike("an image", z, v);
    }
}
