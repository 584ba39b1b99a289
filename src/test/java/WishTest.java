/** Promises 20 to 22: wish, met, fewest. */
public final class WishTest {
    private static final int NONE = BeamBoard.NONE;
    private static final Check CHECK = new Check("WishTest");
    /** Light goes up to a or down to b by the first mirror; turning the second leads the lower light to c. */
    private static final String FORK = "size 4 4;lamp red right at 0 1;mirror slash at 1 1;eye a at 1 0;mirror slash at 1 3;"
            + "eye b at 0 3;eye c at 2 3;mirror back at 3 0;";

    public static void main(String[] args) {
        wish();
        met();
        fewest();
        CHECK.finish();
    }

    private static void wish() {
        BeamBoard x = Check.board(FORK);
        for (int eye = 0; eye < 3; eye++) {
            for (int how = 0; how < 3; how++) {
                CHECK.due("wish(" + eye + ", " + how + ")", x.wish(eye, how), true);
            }
            CHECK.due("wish(" + eye + ", 0)", x.wish(eye, 0), true);
        }
        CHECK.due("met() with no wish left", x.met(), 1);
        int[] wrong = {-1, 3, Integer.MIN_VALUE, Integer.MAX_VALUE};
        for (int value : wrong) {
            CHECK.due("wish(" + value + ", 1)", x.wish(value, 1), false);
            CHECK.due("wish(1, " + value + ")", x.wish(1, value), false);
        }
        CHECK.due("met() behind refused wishes", x.met(), 1);
        CHECK.due("wishes are no settings that were", x.back(), NONE);
    }

    private static void met() {
        BeamBoard x = Check.board(FORK);
        CHECK.due("met()", x.met(), 1);
        x.wish(0, 1);
        CHECK.due("a lit", x.met(), 1);
        x.wish(0, 2);
        CHECK.due("a not lit", x.met(), 0);
        x.turn(0);
        CHECK.due("a not lit, the mirror turned", x.met(), 1);
        x.wish(1, 1);
        CHECK.due("b lit, too", x.met(), 1);
        x.wish(2, 1);
        CHECK.due("c lit, too", x.met(), 0);
        x.wish(2, 0);
        x.wish(0, 0);
        CHECK.due("b lit alone", x.met(), 1);

        // What counts is the end, not the light as it is now.
        BeamBoard late = Check.board("size 3 2;lamp red right at 0 0;shutter when all at 1 0;eye a at 2 0;");
        late.wish(0, 1);
        CHECK.due("sees(0) now", late.sees(0), 0);
        CHECK.due("lit in the end", late.met(), 1);
        late.wish(0, 2);
        CHECK.due("not dark in the end", late.met(), 0);
        CHECK.due("state() stays", late.state(), 0);

        BeamBoard never = Check.board("size 3 2;lamp red right at 0 0;shutter when not sees a red at 1 0;eye a at 2 0;");
        CHECK.due("without an end nothing is met", never.met(), 0);
        CHECK.due("nor by any mirrors", never.fewest(false), NONE);
    }

    private static void fewest() {
        BeamBoard x = Check.board(FORK);
        fewest(x, 0, 0);
        x.wish(1, 1);
        fewest(x, 1, 1);
        x.wish(2, 1);
        fewest(x, NONE, NONE);
        x.wish(1, 0);
        fewest(x, 2, 3);
        CHECK.due("nothing is turned", x.turned(), 0);
        x.turn(1);
        fewest(x, 1, 1);
        x.turn(0);
        fewest(x, 0, 0);
        x.wish(2, 0);
        x.wish(1, 1);
        fewest(x, 1, 2);
        x.wish(1, 0);
        x.wish(0, 1);
        fewest(x, 1, 1);
        CHECK.due("turned()", x.turned(), 3);

        // Either mirror keeps the eye dark: the set with the least number.
        BeamBoard y = Check.board("size 4 3;lamp red right at 0 0;mirror back at 2 2;mirror back at 2 0;eye a at 3 2;");
        y.wish(0, 2);
        fewest(y, 1, 1);
        y.turn(0);
        fewest(y, 0, 0);
        y.wish(0, 1);
        fewest(y, 1, 1);
        y.turn(1);
        fewest(y, 2, 3);

        // The shutter must be open in the end, and stay so.
        BeamBoard z = Check.board("size 4 3;lamp red right at 0 0;mirror slash at 1 0;lamp red right at 0 1;"
                + "shutter when not sees a red or sees b red at 2 1;eye a at 3 1;eye b at 1 2;mirror back at 1 1;");
        fewest(z, 0, 0);
        z.wish(0, 1);
        fewest(z, 1, 1);
        z.wish(1, 2);
        fewest(z, NONE, NONE);
        z.wish(0, 2);
        fewest(z, 1, 2);

        // Without the mirror's turn the shutter blinks: only turned there is an end.
        BeamBoard blinks = Check.board("size 4 3;lamp red right at 0 1;shutter when not sees a red at 2 1;eye a at 3 1;mirror slash at 0 0;half slash at 1 1;");
        fewest(blinks, NONE, NONE);
        BeamBoard rests = Check.board("size 4 3;lamp red up at 1 2;shutter when not sees a red at 2 1;eye a at 3 1;mirror back at 0 0;mirror slash at 1 1;");
        fewest(rests, 1, 2);
        CHECK.due("turn(1)", rests.turn(1), 1);
        fewest(rests, 0, 0);
    }

    private static void fewest(BeamBoard x, int size, int set) {
        CHECK.due("fewest(false)", x.fewest(false), size);
        CHECK.due("fewest(true)", x.fewest(true), set);
    }
}
