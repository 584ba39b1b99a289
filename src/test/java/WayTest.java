/** Promises 31 to 36: reach, behind, rings, steady, slow, back. */
public final class WayTest {
    private static final int NONE = BeamBoard.NONE;
    private static final int MAX = Integer.MAX_VALUE;
    private static final int MIN = Integer.MIN_VALUE;
    private static final Check CHECK = new Check("WayTest");
    private static final String RING = "size 6 4;lamp red right at 0 0;half slash at 1 0;mirror back at 3 0;mirror slash at 3 2;"
            + "mirror back at 1 2;eye a at 1 3;lamp green left at 5 3;eye b at 0 3;wall at 4 0;eye c at 5 0;";

    public static void main(String[] args) {
        reach();
        behind();
        rings();
        steady();
        slow();
        back();
        CHECK.finish();
    }

    private static void reach(BeamBoard x, int lamp, int eye, int colour, int due) {
        CHECK.due("reach(" + lamp + ", " + eye + ", " + colour + ")", x.reach(lamp, eye, colour), due);
    }

    private static void reach() {
        BeamBoard x = Check.board("size 5 4;lamp white right at 0 1;prism at 1 1;eye a at 4 1;eye b at 4 2;mirror back at 1 2;"
                + "lamp blue up at 4 3;eye c at 1 0;glass red at 2 1;shutter when not all at 3 1;");
        reach(x, 0, 0, 1, NONE);
        x.set(1);
        reach(x, 0, 0, 1, 4);
        reach(x, 0, 0, 2, NONE);
        reach(x, 0, 0, 4, NONE);
        reach(x, 0, 1, 2, 5);
        reach(x, 0, 1, 1, NONE);
        reach(x, 0, 2, 4, 2);
        reach(x, 1, 1, 4, 1);
        reach(x, 1, 1, 2, NONE);
        reach(x, 1, 0, 4, NONE);
        int[] noColours = {-1, 0, 3, 5, 6, 7, 8, MAX, MIN};
        for (int colour : noColours) {
            reach(x, 0, 1, colour, NONE);
        }
        reach(x, 2, 0, 1, NONE);
        reach(x, -1, 0, 1, NONE);
        reach(x, 0, 3, 1, NONE);
        reach(x, 0, -1, 1, NONE);
        reach(x, MAX, MIN, 1, NONE);
        x.turn(0);
        reach(x, 0, 1, 2, NONE);

        // Two ways by a half: the shorter one. A square come into twice on the way counts twice.
        BeamBoard y = Check.board("size 5 3;lamp red right at 0 0;half back at 1 0;mirror back at 4 0;mirror back at 1 2;eye a at 4 2;");
        reach(y, 0, 0, 1, 6);
        BeamBoard z = Check.board("size 5 3;lamp red right at 0 0;half back at 1 0;mirror back at 4 0;mirror slash at 1 2;eye a at 4 2;");
        reach(z, 0, 0, 1, 6);
        BeamBoard w = Check.board("size 4 5;lamp red right at 0 2;mirror slash at 3 2;mirror back at 3 0;mirror slash at 1 0;eye a at 1 4;");
        reach(w, 0, 0, 1, 3 + 2 + 2 + 4);
        reach(Check.board("size 2 2;lamp red right at 0 0;eye a at 1 0;"), 0, 0, 1, 1);
    }

    private static void behind() {
        BeamBoard x = Check.board("size 5 4;lamp red right at 0 0;lamp green left at 4 0;eye a at 2 0;lamp blue right at 0 1;"
                + "lamp blue left at 4 1;shutter when all at 3 1;eye b at 2 1;lamp red right at 0 2;wall at 1 2;eye c at 2 2;"
                + "lamp red up at 2 3;");
        int[] due = {3, 4, 32};
        for (int eye = 0; eye < 3; eye++) {
            CHECK.due("behind(" + eye + ")", x.behind(eye), due[eye]);
        }
        CHECK.due("behind(3)", x.behind(3), NONE);
        CHECK.due("behind(-1)", x.behind(-1), NONE);
        CHECK.due("behind(MAX)", x.behind(MAX), NONE);
        x.set(1);
        CHECK.due("behind(1) with the shutter open", x.behind(1), 12);
        // A dark lamp still lets none through.
        BeamBoard y = Check.board("size 4 2;lamp red right at 0 0;lamp red right at 1 0;eye a at 2 0;");
        CHECK.due("behind(0)", y.behind(0), 2);
    }

    private static void rings(BeamBoard x, int red, int green, int blue) {
        CHECK.due("rings(1)", x.rings(1), red);
        CHECK.due("rings(2)", x.rings(2), green);
        CHECK.due("rings(4)", x.rings(4), blue);
    }

    private static void rings() {
        BeamBoard x = Check.board(RING);
        rings(x, 8, 0, 0);
        int[] noColours = {-1, 0, 3, 5, 6, 7, 8, MAX, MIN};
        for (int colour : noColours) {
            CHECK.due("rings(" + colour + ")", x.rings(colour), NONE);
        }
        x.turn(2);
        rings(x, 0, 0, 0);
        x.turn(2);
        x.turn(0);
        rings(x, 0, 0, 0);
        // A ring of mirrors alone that no light comes into; light that crosses itself goes round no ring.
        BeamBoard dark = Check.board("size 4 4;mirror slash at 1 1;mirror back at 2 1;mirror slash at 2 2;mirror back at 1 2;lamp white right at 0 0;");
        rings(dark, 0, 0, 0);
        BeamBoard crosses = Check.board("size 4 5;lamp red right at 0 2;mirror slash at 3 2;mirror back at 3 0;mirror slash at 1 0;eye a at 1 4;");
        rings(crosses, 0, 0, 0);
        // Glass in the ring lets but red round; the prism's colours leave it.
        BeamBoard glass = Check.board("size 6 4;lamp white right at 0 0;half slash at 1 0;mirror back at 3 0;mirror slash at 3 2;"
                + "mirror back at 1 2;glass red at 2 2;");
        rings(glass, 8, 0, 0);
        BeamBoard prism = Check.board("size 6 4;lamp white right at 0 0;half slash at 1 0;mirror back at 3 0;mirror slash at 3 2;"
                + "mirror back at 1 2;prism at 2 2;");
        rings(prism, 8, 0, 0);
        // Both ways round the same squares: each counts once.
        BeamBoard both = Check.board("size 6 4;lamp red right at 0 0;half slash at 1 0;half back at 3 0;mirror slash at 3 2;"
                + "mirror back at 1 2;lamp red left at 5 0;");
        rings(both, 8, 0, 0);
        // In a state in which the shutter in the ring is shut, there is none.
        BeamBoard shut = Check.board("size 6 4;lamp red right at 0 0;half slash at 1 0;mirror back at 3 0;mirror slash at 3 2;"
                + "mirror back at 1 2;shutter when all at 2 2;");
        rings(shut, 0, 0, 0);
        shut.set(1);
        rings(shut, 8, 0, 0);
    }

    private static void steady() {
        String text = "size 4 4;lamp red right at 0 0;shutter when not sees a red at 1 0;eye a at 2 0;eye b at 0 1;"
                + "lamp red right at 1 1;eye c at 2 1;";
        BeamBoard x = Check.board(text);
        CHECK.due("steady(true)", x.steady(true), 4);
        CHECK.due("steady(false)", x.steady(false), 5);
        x.set(1);
        CHECK.due("steady(true)", x.steady(true), 4);
        CHECK.due("steady(false)", x.steady(false), 5);
        CHECK.due("state()", x.state(), 1);
        // What is ahead of the round doesn't count.
        BeamBoard y = Check.board("size 4 2;lamp red right at 0 0;shutter when not all at 1 0;eye a at 2 0;");
        y.set(1);
        CHECK.due("sees(0)", y.sees(0), 1);
        CHECK.due("steady(false)", y.steady(false), 0);
        CHECK.due("steady(true)", y.steady(true), 0);
    }

    private static void slow(BeamBoard x, int state, int steps) {
        CHECK.due("slow(0)", x.slow(0), state);
        CHECK.due("slow(1)", x.slow(1), steps);
        CHECK.due("slow(2)", x.slow(2), NONE);
        CHECK.due("slow(-1)", x.slow(-1), NONE);
    }

    private static void slow() {
        slow(Check.board("size 3 2;lamp red right at 0 0;shutter when sees a red at 1 0;eye a at 2 0;"), 0, 0);
        slow(Check.board("size 3 2;lamp red right at 0 0;shutter when not all at 1 0;eye a at 2 0;"), 1, 1);
        // 1, 3, 7, then at rest in 7 for good: from 0 three steps, and so from 4 and 6.
        BeamBoard x = Check.board("size 4 3;lamp red right at 0 0;shutter when all at 1 0;eye a at 2 0;"
                + "lamp red right at 0 1;shutter when sees a red at 1 1;eye b at 2 1;shutter when sees b red at 3 2;");
        slow(x, 0, 3);
        x.set(7);
        slow(x, 0, 3);
        // Shut one behind the other: from all open the longest.
        BeamBoard y = Check.board("size 4 3;lamp red right at 0 0;shutter when not all at 1 0;eye a at 2 0;"
                + "lamp red right at 0 1;shutter when sees a red at 1 1;eye b at 2 1;shutter when sees b red at 3 2;");
        slow(y, 1, 3);
        slow(new BeamBoard(), 0, 0);
    }

    private static void back() {
        BeamBoard x = Check.board("size 4 3;mirror slash at 0 0;half back at 1 0;lamp red right at 0 1;shutter when not sees a red at 1 1;eye a at 2 1;");
        CHECK.due("back() at first", x.back(), NONE);
        x.turn(0);
        x.set(1);
        x.step(1);
        x.turn(1);
        CHECK.due("back()", x.back(), 3);
        setting(x, 1, 0);
        CHECK.due("back()", x.back(), 2);
        setting(x, 1, 1);
        CHECK.due("back()", x.back(), 1);
        setting(x, 1, 0);
        CHECK.due("back()", x.back(), 0);
        setting(x, 0, 0);
        CHECK.due("back()", x.back(), NONE);
        setting(x, 0, 0);
        // Where nothing became otherwise nothing was.
        x.set(0);
        x.step(0);
        x.step(2);
        x.turn(5);
        x.set(9);
        x.step(-1);
        x.wish(0, 1);
        CHECK.due("back() where nothing became otherwise", x.back(), NONE);
        x.step(3);
        CHECK.due("back() behind step(3)", x.back(), 0);
        setting(x, 0, 0);
        // Sixteen, and a 17th.
        for (int i = 0; i < 17; i++) {
            x.turn(i == 0 ? 1 : 0);
        }
        for (int left = 15; left >= 0; left--) {
            CHECK.due("back(), left " + left, x.back(), left);
            setting(x, left % 2 == 0 ? 2 : 3, 0);
        }
        CHECK.due("back()", x.back(), NONE);
        setting(x, 2, 0);
        for (int i = 0; i < 16; i++) {
            x.set(1 - x.state());
        }
        CHECK.due("back()", x.back(), 15);
        x.wish(0, 0);
        CHECK.due("back() goes on", x.back(), 14);
        // Each setting with both its parts, beyond sixteen.
        BeamBoard y = Check.board("size 4 4;mirror slash at 0 0;half back at 1 0;mirror back at 2 0;shutter when all at 0 1;"
                + "shutter when all at 1 1;vane slash when not all at 2 1;shutter when all at 3 1;vane back when all at 3 2;");
        for (int i = 1; i <= 30; i++) {
            if (i % 10 == 0) {
                y.turn(i / 10 - 1);
            } else {
                y.set(i);
            }
        }
        for (int left = 15; left >= 0; left--) {
            CHECK.due("back()", y.back(), left);
            int i = left + 14;
            setting(y, i < 20 ? 1 : 3, i == 20 ? 19 : i);
        }
    }

    private static void setting(BeamBoard x, int turned, int state) {
        CHECK.due("turned()", x.turned(), turned);
        CHECK.due("state()", x.state(), state);
    }
}
