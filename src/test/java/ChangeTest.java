/** Promises 23 to 30: needed, shadow, darkest, more, solutions, near, tint, swapped. */
public final class ChangeTest {
    private static final int NONE = BeamBoard.NONE;
    private static final int MAX = Integer.MAX_VALUE;
    private static final int MIN = Integer.MIN_VALUE;
    private static final Check CHECK = new Check("ChangeTest");
    private static final String BLINKS = "size 3 2;lamp red right at 0 0;shutter when not sees a red at 1 0;eye a at 2 0;eye b at 0 1;";
    /** Through the half to a, and up from it to b. */
    private static final String PARTED = "size 4 3;lamp red right at 0 2;half slash at 1 2;eye a at 3 2;eye b at 1 0;wall at 3 0;eye c at 0 0;";

    public static void main(String[] args) {
        needed();
        neededMovers();
        shadow();
        darkest();
        more();
        solutions();
        near();
        tint();
        swapped();
        CHECK.finish();
    }

    private static void needed(BeamBoard x, int column, int row, int due) {
        CHECK.due("needed(" + column + ", " + row + ")", x.needed(column, row), due);
    }

    private static void needed() {
        BeamBoard x = Check.board(PARTED);
        needed(x, 0, 2, 3);
        needed(x, 1, 2, 2);
        needed(x, 3, 2, 1);
        needed(x, 1, 0, 2);
        needed(x, 3, 0, 0);
        needed(x, 0, 0, 0);
        needed(x, 2, 2, NONE);
        needed(x, 4, 0, NONE);
        needed(x, 0, 3, NONE);
        needed(x, -1, 0, NONE);
        needed(x, 0, -1, NONE);
        needed(x, MAX, MIN, NONE);
        CHECK.due("all is as it was", x.square(1, 2, 0), 3);
        CHECK.due("all is as it was", x.sees(1), 1);
        // Without the first eye the second behind it is lit, and the other way round.
        BeamBoard y = Check.board("size 4 2;lamp red right at 0 0;eye a at 2 0;eye b at 3 0;");
        needed(y, 2, 0, 3);
        needed(y, 3, 0, 0);
        // Nobody has an end: with the shutter nobody, without it it has one; so all eyes.
        BeamBoard z = Check.board(BLINKS);
        needed(z, 0, 0, 3);
        needed(z, 1, 0, 3);
        needed(z, 2, 0, 3);
        needed(z, 0, 1, 0);
    }

    private static void neededMovers() {
        // Eye a is lit through the shutter's square; the second shutter's TEST looks at a alone.
        BeamBoard x = Check.board("size 4 3;lamp red right at 0 0;shutter when not all at 1 0;eye a at 2 0;"
                + "lamp red right at 0 1;shutter when sees a red at 1 1;eye b at 2 1;");
        needed(x, 1, 0, 3);
        needed(x, 1, 1, 2);
        CHECK.due("state()", x.state(), 0);
        // Its bit stays: two shutters that wake each other, one of them taken away.
        BeamBoard y = Check.board("size 4 3;lamp red right at 0 0;shutter when not sees b red at 1 0;eye a at 2 0;"
                + "lamp red right at 0 1;shutter when sees a red at 1 1;eye b at 2 1;");
        CHECK.due("no end", y.round(1), 4);
        needed(y, 1, 0, 3);
        needed(y, 1, 1, 3);
        // A vane that is gone neither turns nor moves; without it the light goes straight on.
        BeamBoard z = Check.board("size 4 3;lamp red right at 0 1;vane slash when sees a red at 1 1;eye a at 1 2;eye b at 1 0;eye c at 3 1;");
        needed(z, 1, 1, 6);
        z.set(1);
        needed(z, 1, 1, 5);
        CHECK.due("state()", z.state(), 1);
    }

    private static void shadow(BeamBoard x, int column, int row, int due) {
        CHECK.due("shadow(" + column + ", " + row + ")", x.shadow(column, row), due);
    }

    private static void shadow() {
        BeamBoard x = Check.board("size 4 3;half slash at 1 2;eye a at 3 2;eye b at 1 0;lamp red down at 0 0;mirror back at 0 2;");
        shadow(x, 0, 1, 2);
        shadow(x, 2, 2, 1);
        shadow(x, 1, 1, 1);
        shadow(x, 2, 0, 0);
        shadow(x, 3, 0, 0);
        shadow(x, 0, 0, NONE);
        shadow(x, 3, 2, NONE);
        shadow(x, 4, 0, NONE);
        shadow(x, 0, 3, NONE);
        shadow(x, -1, 2, NONE);
        shadow(x, 2, -1, NONE);
        shadow(x, MIN, MAX, NONE);
        // Eyes that a wall lights are none of its shadow: c gets light when a's gets none.
        BeamBoard y = Check.board("size 5 3;lamp red right at 0 0;eye a at 3 0;lamp red right at 0 1;shutter when not sees a red at 1 1;eye c at 3 1;");
        shadow(y, 1, 0, 1);
        shadow(y, 2, 1, 0);
        BeamBoard z = Check.board(BLINKS);
        shadow(z, 1, 1, 0);
        // With the wall there is an end, without there is none.
        BeamBoard w = Check.board("size 4 2;lamp red right at 0 0;shutter when not sees a red at 1 0;eye a at 3 0;");
        shadow(w, 2, 0, 0);
    }

    private static void darkest(BeamBoard x, int column, int row, int shadow) {
        CHECK.due("darkest(0)", x.darkest(0), column);
        CHECK.due("darkest(1)", x.darkest(1), row);
        CHECK.due("darkest(2)", x.darkest(2), shadow);
        CHECK.due("darkest(3)", x.darkest(3), NONE);
        CHECK.due("darkest(-1)", x.darkest(-1), NONE);
    }

    private static void darkest() {
        darkest(Check.board("size 4 3;half slash at 1 2;eye a at 3 2;eye b at 1 0;lamp red down at 0 0;mirror back at 0 2;"), 0, 1, 2);
        darkest(Check.board("size 4 3;half slash at 1 2;eye a at 3 2;eye b at 1 0;lamp red right at 0 2;"), 1, 1, 1);
        darkest(Check.board("size 3 3;wall at 0 0;"), 1, 0, 0);
        darkest(Check.board("size 2 2;wall at 0 0;eye a at 0 1;eye b at 1 0;eye c at 1 1;"), NONE, NONE, NONE);
        darkest(Check.board(BLINKS), 1, 1, 0);
        BeamBoard full = Check.board(full());
        darkest(full, 1, 11, 1);
        CHECK.due("shadow(11, 11)", full.shadow(11, 11), 0);
        // The light as it will be in the end is what a wall takes away, not that of now.
        BeamBoard later = Check.board("size 3 4;lamp red right at 0 2;vane slash when not all at 1 2;eye a at 1 0;eye b at 1 3;");
        later.set(1);
        darkest(later, 1, 1, 1);
        CHECK.due("sees(1) now", later.sees(1), 1);
        // Ahead of the same shadow: the row counts first, then the column.
        darkest(Check.board("size 4 4;lamp red down at 3 0;eye a at 3 3;lamp red right at 0 2;eye b at 2 2;"), 3, 1, 1);
    }

    /** As large as can be, with as many PIECES as can be: fifty-five walls, a lamp, two mirrors and an eye. */
    private static String full() {
        StringBuilder text = new StringBuilder("size 12 12;lamp red right at 0 11;mirror slash at 11 0;half back at 10 0;eye a at 10 11;");
        for (int i = 0; i < 55; i++) {
            text.append("wall at ").append(i % 5).append(' ').append(i / 5).append(';');
        }
        return text.toString();
    }

    private static void more(BeamBoard x, int column, int row, int form) {
        CHECK.due("more(0)", x.more(0), column);
        CHECK.due("more(1)", x.more(1), row);
        CHECK.due("more(2)", x.more(2), form);
        CHECK.due("more(3)", x.more(3), NONE);
        CHECK.due("more(-1)", x.more(-1), NONE);
    }

    private static void more() {
        BeamBoard x = Check.board("size 4 4;lamp red right at 0 1;eye a at 2 3;eye b at 2 0;wall at 0 0;");
        more(x, 1, 0, 0);
        x.wish(0, 1);
        more(x, 2, 1, 1);
        x.wish(1, 1);
        more(x, NONE, NONE, NONE);
        x.wish(0, 2);
        more(x, 2, 1, 0);
        x.wish(1, 2);
        more(x, 1, 0, 0);
        CHECK.due("nothing is put there", x.square(2, 1, 0), 0);
        CHECK.due("full", Check.board("size 2 2;wall at 0 0;wall at 0 1;wall at 1 0;wall at 1 1;").more(0), NONE);
        more(Check.board("size 2 3;wall at 0 0;wall at 0 1;wall at 1 0;wall at 1 1;wall at 0 2;"), 1, 2, 0);
        // One mirror more goes beyond eight, too.
        StringBuilder text = new StringBuilder("size 9 4;lamp red right at 0 1;eye a at 8 3;");
        for (int i = 0; i < 8; i++) {
            text.append("mirror slash at ").append(i).append(" 0;");
        }
        BeamBoard y = Check.board(text.toString());
        y.wish(0, 1);
        more(y, 8, 1, 1);
        // No mirror's light may come to a square that never had any: the wishes stay as they were met or not.
        BeamBoard z = Check.board("size 3 3;lamp red right at 0 1;eye a at 2 1;");
        z.wish(0, 1);
        more(z, 0, 0, 0);
        z.wish(0, 2);
        more(z, 1, 1, 0);
        more(Check.board(BLINKS), NONE, NONE, NONE);
        BeamBoard later = Check.board("size 3 4;lamp red right at 0 2;vane slash when not all at 1 2;eye a at 0 1;");
        later.set(1);
        later.wish(0, 1);
        more(later, 1, 1, 1);
        BeamBoard full = Check.board(full());
        more(full, 5, 0, 0);
        full.wish(0, 2);
        more(full, 1, 11, 0);
        needed(full, 10, 11, 1);
        CHECK.due("lit(7)", full.lit(7), 10);
    }

    private static void solutions(BeamBoard x, int count, int sure, int bare) {
        CHECK.due("solutions(0)", x.solutions(0), count);
        CHECK.due("solutions(1)", x.solutions(1), sure);
        CHECK.due("solutions(2)", x.solutions(2), bare);
        CHECK.due("solutions(3)", x.solutions(3), NONE);
        CHECK.due("solutions(-1)", x.solutions(-1), NONE);
    }

    private static void solutions() {
        BeamBoard x = Check.board("size 4 4;lamp red right at 0 1;mirror slash at 1 1;eye a at 1 0;mirror slash at 1 3;"
                + "eye b at 0 3;eye c at 2 3;half back at 3 0;");
        solutions(x, 8, 0, 0);
        x.wish(0, 1);
        solutions(x, 4, 0, 1);
        x.wish(0, 2);
        solutions(x, 4, 1, 0);
        x.wish(1, 1);
        solutions(x, 2, 1, 2);
        x.turn(2);
        solutions(x, 2, 1, 2);
        x.wish(1, 2);
        x.wish(2, 1);
        solutions(x, 2, 3, 0);
        x.wish(1, 1);
        solutions(x, 0, 7, 7);
        CHECK.due("turned()", x.turned(), 4);
        solutions(Check.board(BLINKS), 0, 0, 0);
        // From the state: what rests open with a mirror that leads light to the eye.
        BeamBoard y = Check.board("size 4 2;lamp red right at 0 0;shutter when sees a red at 1 0;eye a at 3 0;mirror back at 0 1;");
        y.wish(0, 1);
        solutions(y, 0, 1, 1);
        y.set(1);
        solutions(y, 2, 0, 0);
    }

    private static void near() {
        BeamBoard x = Check.board("size 5 4;lamp red right at 0 0;shutter when sees a red at 1 0;eye a at 2 0;"
                + "lamp red right at 0 1;shutter when sees b red at 1 1;eye b at 2 1;"
                + "lamp red right at 0 2;shutter when sees c red at 1 2;eye c at 2 2;");
        near(x, 0, 0);
        near(x, 5, 5);
        x.wish(0, 1);
        near(x, 0, 1);
        near(x, 5, 5);
        near(x, 6, 7);
        x.wish(1, 1);
        near(x, 0, 3);
        near(x, 4, 7);
        x.wish(2, 2);
        near(x, 4, 3);
        CHECK.due("state()", x.state(), 4);
        CHECK.due("no end", Check.board(BLINKS).near(), NONE);
        BeamBoard z = Check.board("size 3 2;lamp red right at 0 0;shutter when all at 1 0;eye a at 2 0;");
        z.wish(0, 2);
        near(z, 0, NONE);
        z.wish(0, 1);
        near(z, 0, 0);
        near(z, 1, 1);
        // The third is open while one of two that are kept is, not both: of two states as near the lesser one.
        BeamBoard w = Check.board("size 5 5;lamp red right at 0 0;shutter when sees a red at 1 0;eye a at 2 0;"
                + "lamp red right at 0 1;shutter when sees b red at 1 1;eye b at 2 1;lamp red right at 0 2;"
                + "shutter when [sees a red or sees b red] and not [sees a red and sees b red] at 1 2;eye c at 2 2;");
        w.wish(2, 1);
        near(w, 0, 1);
        near(w, 3, 1);
        near(w, 7, 5);
        near(w, 2, 2);
        w.wish(0, 2);
        near(w, 0, 2);
        near(w, 1, 2);
        // Six that are kept: far away in all bits, and in five.
        StringBuilder text = new StringBuilder("size 3 6;");
        for (int i = 0; i < 6; i++) {
            text.append("lamp red right at 0 ").append(i).append(";shutter when sees e").append((char) ('a' + i))
                    .append(" red at 1 ").append(i).append(";eye e").append((char) ('a' + i)).append(" at 2 ").append(i).append(';');
        }
        BeamBoard six = Check.board(text.toString());
        for (int eye = 0; eye < 6; eye++) {
            six.wish(eye, 1);
        }
        near(six, 0, 63);
        near(six, 4, 63);
        six.wish(0, 2);
        near(six, 0, 62);
        near(six, 1, 62);
    }

    private static void near(BeamBoard x, int state, int due) {
        x.set(state);
        CHECK.due("near() from " + state, x.near(), due);
    }

    private static void tint(BeamBoard x, int column, int row, int due) {
        CHECK.due("tint(" + column + ", " + row + ")", x.tint(column, row), due);
    }

    private static void tint() {
        BeamBoard x = Check.board("size 5 3;lamp white right at 0 1;glass white at 1 1;prism at 2 1;eye r at 4 1;eye g at 2 2;eye b at 2 0;");
        tint(x, 1, 1, 0);
        x.wish(0, 1);
        tint(x, 1, 1, 1);
        x.wish(1, 1);
        tint(x, 1, 1, 3);
        x.wish(2, 1);
        tint(x, 1, 1, 7);
        x.wish(1, 2);
        tint(x, 1, 1, 5);
        x.wish(0, 2);
        tint(x, 1, 1, 4);
        x.wish(2, 0);
        x.wish(1, 1);
        tint(x, 1, 1, 2);
        CHECK.due("the glass is as it was", x.square(1, 1, 2), 7);
        tint(x, 0, 1, NONE);
        tint(x, 2, 1, NONE);
        tint(x, 3, 1, NONE);
        tint(x, 5, 0, NONE);
        tint(x, 0, 3, NONE);
        tint(x, -1, 1, NONE);
        tint(x, 1, MIN, NONE);
        BeamBoard y = Check.board("size 4 3;lamp red right at 0 1;glass red at 1 1;eye a at 2 1;eye b at 3 1;");
        y.wish(1, 1);
        tint(y, 1, 1, NONE);
        tint(Check.board("size 4 2;lamp red right at 0 0;glass green at 1 0;shutter when not sees a red at 2 0;eye a at 3 0;"), 1, 0, 0);
    }

    private static void swapped(BeamBoard x, int column, int row, int otherColumn, int otherRow, int due) {
        CHECK.due("swapped(" + column + ", " + row + ", " + otherColumn + ", " + otherRow + ")",
                x.swapped(column, row, otherColumn, otherRow), due);
        CHECK.due("the other way round", x.swapped(otherColumn, otherRow, column, row), due);
    }

    private static void swapped() {
        BeamBoard x = Check.board("size 4 3;lamp red right at 0 0;wall at 1 0;eye a at 3 0;eye b at 3 1;mirror back at 0 2;");
        x.wish(0, 1);
        swapped(x, 1, 0, 2, 2, 1);
        swapped(x, 1, 0, 2, 0, 0);
        swapped(x, 0, 0, 1, 0, 1);
        swapped(x, 0, 0, 0, 1, 0);
        swapped(x, 3, 0, 3, 1, 0);
        swapped(x, 2, 1, 2, 2, 0);
        x.wish(0, 0);
        x.wish(1, 1);
        swapped(x, 0, 0, 0, 1, 1);
        swapped(x, 0, 0, 1, 1, 1);
        swapped(x, 3, 0, 3, 1, 0);
        swapped(x, 0, 0, 0, 0, NONE);
        swapped(x, 4, 0, 0, 0, NONE);
        swapped(x, 0, 3, 0, 0, NONE);
        swapped(x, -1, 0, 0, 0, NONE);
        swapped(x, 0, -1, 4, 4, NONE);
        swapped(x, MAX, MIN, 1, 1, NONE);
        CHECK.due("all is as it was", x.square(0, 0, 0), 1);
        CHECK.due("all is as it was", x.square(1, 0, 0), 6);
        CHECK.due("all is as it was", x.square(0, 2, 1), 0);
        CHECK.due("all is as it was", x.square(0, 1, 0), 0);
        // A mirror takes along that it is turned, a mover its TEST and its bit.
        BeamBoard y = Check.board("size 4 3;lamp red right at 0 1;mirror back at 1 1;mirror back at 3 0;eye a at 1 0;eye b at 1 2;");
        y.wish(0, 1);
        swapped(y, 1, 1, 3, 0, 0);
        y.turn(1);
        swapped(y, 1, 1, 3, 0, 1);
        swapped(y, 1, 1, 2, 0, 0);
    }
}
