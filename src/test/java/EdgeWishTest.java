/**
 * Where the document's sentences of wishes and changes (Terms, III; promises 20 to 30) end: no end at all, on one side or
 * on both; no set, all sets, one; the first and the last of each; of like ones the least.
 */
public final class EdgeWishTest {
    private static final int NONE = BeamBoard.NONE;
    private static final Check CHECK = new Check("EdgeWishTest");
    /** Light from the left through the empty square 1 1 and seven halves to eight eyes. */
    private static final String EIGHT_EYES = eightEyes();

    public static void main(String[] args) {
        wishes();
        met();
        fewestOfEight();
        likeOnes();
        needed();
        neededFromTheState();
        neededOfEachSort();
        shadow();
        darkest();
        more();
        moreOfForms();
        lightOnTheWay();
        near();
        tint();
        tintOfOthers();
        swapped();
        swappedSorts();
        CHECK.finish();
    }

    private static String eightEyes() {
        StringBuilder text = new StringBuilder("size 12 2;lamp red right at 0 1;");
        for (int k = 0; k < 7; k++) {
            text.append("half slash at ").append(k + 2).append(" 1;eye n").append((char) ('a' + k)).append(" at ").append(k + 2).append(" 0;");
        }
        return text + "eye nh at 9 1;";
    }

    // ---- wish: "0 it does not matter, 1 LIT, 2 not"

    private static void wishes() {
        BeamBoard x = Check.board(EIGHT_EYES);
        for (int eye = 0; eye < 8; eye++) {
            int[] hows = {1, 2, 0, 2, 1, 0};
            int[] met = {1, 0, 1, 0, 1, 1};
            for (int i = 0; i < hows.length; i++) {
                CHECK.due("wish(" + eye + ", " + hows[i] + ")", x.wish(eye, hows[i]), true);
                CHECK.due("met()", x.met(), met[i]);
            }
            CHECK.due("wish(" + eye + ", 3)", x.wish(eye, 3), false);
            CHECK.due("wish(" + eye + ", -1)", x.wish(eye, -1), false);
            CHECK.due("met()", x.met(), 1);
        }
        CHECK.due("wish(8, 1)", x.wish(8, 1), false);
        CHECK.due("wish(8, 0)", x.wish(8, 0), false);
        CHECK.due("wish(-1, 0)", x.wish(-1, 0), false);
        CHECK.due("wish(40, 2)", x.wish(40, 2), false);
        CHECK.due("met()", x.met(), 1);
        // One that is not met is enough; an eye that does not matter is none.
        for (int eye = 0; eye < 8; eye++) {
            x.wish(eye, 1);
        }
        CHECK.due("all eight lit", x.met(), 1);
        x.turn(0);
        CHECK.due("but the first", x.met(), 0);
        x.wish(0, 0);
        CHECK.due("the first does not matter", x.met(), 1);
        x.wish(7, 2);
        CHECK.due("the last is not to be", x.met(), 0);
        CHECK.due("wish() of no eye", Check.board("size 2 2;lamp red right at 0 0;").wish(0, 1), false);
    }

    // ---- "They are MET, if FROM THE STATE there is an END, and in it each EYE is as wished"

    private static void met() {
        BeamBoard up = Check.board(Machine.countsUp(6));
        for (int eye = 0; eye < 6; eye++) {
            up.wish(eye, 1);
        }
        for (int state : new int[] {0, 1, 31, 62, 63}) {
            up.set(state);
            CHECK.due("all lit, from " + state, up.met(), 1);
        }
        up.wish(5, 2);
        CHECK.due("the last not, from the end", up.met(), 0);
        up.set(0);
        CHECK.due("the last not, from 0", up.met(), 0);
        BeamBoard round = Check.board(Machine.counts(6));
        CHECK.due("without an end, nothing wished", round.met(), 0);
        CHECK.due("fewest(false)", round.fewest(false), NONE);
        CHECK.due("fewest(true)", round.fewest(true), NONE);
        CHECK.due("solutions(0)", round.solutions(0), 0);
        CHECK.due("near()", round.near(), NONE);
        BeamBoard two = Check.board(Machine.counts(1));
        CHECK.due("a round of two is no end", two.met(), 0);
        CHECK.due("a round of one is", Check.board(Machine.keeps(1)).met(), 1);
        CHECK.due("without eyes", Check.board("size 2 2;shutter when not all at 0 0;").met(), 1);
    }

    /** The eight mirrors of EdgeBoardTest's way to and fro, all in their other form. */
    private static String allWrong() {
        StringBuilder text = new StringBuilder();
        for (String statement : EdgeBoardTest.toAndFro().split("(?<=;)")) {
            boolean isSlash = statement.contains("slash");
            text.append(!statement.startsWith("mirror") ? statement : isSlash ? statement.replace("slash", "back") : statement.replace("back", "slash"));
        }
        return text.toString();
    }

    private static void solved(BeamBoard x, int fewest, int set, int count, int sure, int bare) {
        CHECK.due("fewest(false)", x.fewest(false), fewest);
        CHECK.due("fewest(true)", x.fewest(true), set);
        CHECK.due("solutions(0)", x.solutions(0), count);
        CHECK.due("solutions(1)", x.solutions(1), sure);
        CHECK.due("solutions(2)", x.solutions(2), bare);
    }

    // ---- FEWEST and SOLUTIONS: none, one, all of the sets of eight mirrors

    private static void fewestOfEight() {
        BeamBoard x = Check.board(allWrong());
        solved(x, 0, 0, 256, 0, 0);
        x.wish(0, 1);
        solved(x, 8, 255, 1, 255, 0);
        x.wish(0, 2);
        solved(x, 0, 0, 255, 0, 0);
        for (int mirror = 0; mirror < 8; mirror++) {
            x.turn(mirror);
        }
        solved(x, 1, 1, 255, 0, 0);
        x.wish(0, 1);
        solved(x, 0, 0, 1, 255, 0);
        x.turn(7);
        solved(x, 1, 128, 1, 255, 0);
        x.turn(2);
        solved(x, 2, 132, 1, 255, 0);
        CHECK.due("turned()", x.turned(), 255 - 132);
        BeamBoard right = Check.board(EdgeBoardTest.toAndFro());
        right.wish(0, 1);
        solved(right, 0, 0, 1, 0, 255);
        right.turn(3);
        solved(right, 1, 8, 1, 0, 255);
        BeamBoard never = Check.board(EdgeBoardTest.toAndFro() + "eye dark at 5 11;");
        never.wish(1, 1);
        solved(never, NONE, NONE, 0, 255, 255);
        BeamBoard none = Check.board("size 3 2;lamp red right at 0 0;eye a at 2 0;");
        solved(none, 0, 0, 1, 0, 0);
        none.wish(0, 2);
        solved(none, NONE, NONE, 0, 0, 0);
        BeamBoard one = Check.board("size 3 2;lamp red right at 0 0;mirror slash at 1 0;eye a at 1 1;");
        one.wish(0, 1);
        solved(one, 1, 1, 1, 1, 0);
        one.turn(0);
        solved(one, 0, 0, 1, 1, 0);
        one.wish(0, 2);
        solved(one, 1, 1, 1, 0, 1);
    }

    // ---- "of like ones the set with the least number"

    private static void likeOnes() {
        // The eye is lit from the left by mirrors 0 and 7 turned, from the right by 1 and 2; the others are in the dark.
        BeamBoard x = Check.board("size 12 12;eye a at 5 5;lamp red right at 0 3;lamp blue left at 11 3;mirror slash at 2 3;"
                + "mirror back at 8 3;half back at 8 5;mirror slash at 0 9;mirror slash at 1 9;mirror slash at 2 9;mirror slash at 3 9;"
                + "mirror slash at 2 5;");
        x.wish(0, 1);
        // Sets with 0 and 7: a quarter; with 1 and 2: a quarter; with all four: a sixteenth.
        solved(x, 2, 6, 64 + 64 - 16, 0, 0);
        x.turn(7);
        solved(x, 1, 1, 112, 0, 0);
        x.turn(7);
        x.turn(2);
        solved(x, 1, 2, 112, 0, 0);
        x.turn(7);
        solved(x, 1, 1, 112, 0, 0);
        x.turn(0);
        solved(x, 0, 0, 112, 0, 0);
        x.wish(0, 2);
        solved(x, 1, 1, 144, 0, 0);
        x.turn(1);
        solved(x, 2, 3, 144, 0, 0);
        CHECK.due("turned()", x.turned(), 135);
    }

    private static void needed(BeamBoard x, int column, int row, int due) {
        CHECK.due("needed(" + column + ", " + row + ") from " + x.state(), x.needed(column, row), due);
    }

    // ---- NEEDED: "none if both have no END, all EYES if just one has"

    private static void needed() {
        // It counts round for ever with each of them; without the first lamp, or eye, it rests.
        BeamBoard round = Check.board(Machine.counts(3));
        needed(round, Machine.LAMP_COLUMN, 2, 0);
        needed(round, Machine.SHUTTER_COLUMN, 2, 0);
        needed(round, Machine.EYE_COLUMN, 2, 0);
        needed(round, Machine.LAMP_COLUMN, 1, 0);
        needed(round, Machine.SHUTTER_COLUMN, 0, 0);
        needed(round, Machine.LAMP_COLUMN, 0, 7);
        needed(round, Machine.EYE_COLUMN, 0, 7);
        needed(round, Machine.EMPTY_COLUMN, 0, NONE);
        // It counts up to all lit and rests; without the last lamp, or eye, the others go round for ever.
        BeamBoard up = Check.board(Machine.countsUp(3));
        needed(up, Machine.LAMP_COLUMN, 2, 7);
        needed(up, Machine.EYE_COLUMN, 2, 7);
        needed(up, Machine.LAMP_COLUMN, 1, 7);
        up.set(7);
        needed(up, Machine.SHUTTER_COLUMN, 2, 0);
        needed(up, Machine.LAMP_COLUMN, 1, 7);
        BeamBoard eight = Check.board(EIGHT_EYES);
        needed(eight, 0, 1, 255);
        needed(eight, 9, 1, 128);
        needed(eight, 8, 1, 64);
        needed(eight, 2, 0, 1);
        needed(eight, 2, 1, 1);
        BeamBoard none = Check.board("size 3 2;lamp red right at 0 0;shutter when not all at 1 0;");
        needed(none, 0, 0, 0);
        needed(none, 1, 0, 0);
    }

    // ---- "each looked at FROM THE STATE"

    private static void neededFromTheState() {
        BeamBoard x = Check.board(Machine.keeps(3));
        for (int state = 0; state < 8; state++) {
            x.set(state);
            for (int row = 0; row < 3; row++) {
                int bit = 1 << row;
                needed(x, Machine.LAMP_COLUMN, row, state & bit);
                needed(x, Machine.EYE_COLUMN, row, state & bit);
                needed(x, Machine.SHUTTER_COLUMN, row, ~state & bit);
                CHECK.due("shadow", x.shadow(Machine.EMPTY_COLUMN, row), (state & bit) == 0 ? 0 : 1);
            }
            int lowest = state == 0 ? 0 : Integer.numberOfTrailingZeros(state);
            CHECK.due("darkest(0)", x.darkest(0), 1);
            CHECK.due("darkest(1)", x.darkest(1), lowest);
            CHECK.due("darkest(2)", x.darkest(2), state == 0 ? 0 : 1);
        }
    }

    /** "EYES that are LIT in the END with it and not without it, or the other way round": each sort of piece. */
    private static void neededOfEachSort() {
        BeamBoard x = Check.board("size 6 6;lamp red right at 0 0;wall at 2 0;eye a at 5 0;lamp white right at 0 1;glass green at 2 1;eye b at 5 1;"
                + "lamp white right at 0 2;prism at 2 2;eye c at 5 2;lamp blue right at 0 4;mirror slash at 3 4;eye d at 3 3;eye e at 5 4;"
                + "lamp blue right at 0 5;half slash at 4 5;eye f at 5 5;wall at 5 3;");
        needed(x, 2, 0, 1);
        needed(x, 2, 1, 0);
        needed(x, 0, 1, 2);
        needed(x, 2, 2, 0);
        needed(x, 0, 2, 4);
        needed(x, 3, 4, 24);
        needed(x, 3, 3, 8);
        needed(x, 5, 4, 0);
        needed(x, 4, 5, 0);
        needed(x, 5, 5, 32);
        needed(x, 0, 5, 32);
        needed(x, 5, 3, 0);
        x.turn(0);
        needed(x, 3, 4, 16);
        needed(x, 3, 3, 0);
        // Through glass of another colour nothing comes; without it the eye is lit.
        BeamBoard y = Check.board("size 5 3;lamp red right at 0 1;glass blue at 1 1;eye a at 4 1;prism at 2 1;");
        needed(y, 1, 1, 1);
        needed(y, 2, 1, 0);
        needed(y, 0, 1, 0);
        needed(y, 4, 1, 0);
    }

    private static void shadow(BeamBoard x, int column, int row, int due) {
        CHECK.due("shadow(" + column + ", " + row + ")", x.shadow(column, row), due);
    }

    private static void darkest(BeamBoard x, int column, int row, int shadow) {
        int[] due = {column, row, shadow, NONE};
        for (int what = 0; what < 4; what++) {
            CHECK.due("darkest(" + what + ")", x.darkest(what), due[what]);
        }
        CHECK.due("darkest(-1)", x.darkest(-1), NONE);
    }

    // ---- "how many EYES are LIT in the END without it and not with it (0 if one of them has none)"

    private static void shadow() {
        BeamBoard up = Check.board(Machine.countsUp(3));
        shadow(up, Machine.EMPTY_COLUMN, 0, 3);
        shadow(up, Machine.EMPTY_COLUMN, 1, 0);
        shadow(up, Machine.EMPTY_COLUMN, 2, 0);
        BeamBoard round = Check.board(Machine.counts(3));
        shadow(round, Machine.EMPTY_COLUMN, 0, 0);
        shadow(round, Machine.EMPTY_COLUMN, 1, 0);
        shadow(round, Machine.LAMP_COLUMN, 0, NONE);
        BeamBoard eight = Check.board(EIGHT_EYES);
        shadow(eight, 1, 1, 8);
        shadow(eight, 0, 0, 0);
        shadow(eight, 1, 0, 0);
        shadow(eight, 11, 1, 0);
        shadow(eight, 12, 1, NONE);
        shadow(eight, 0, 2, NONE);
        shadow(eight, 2, 1, NONE);
        // Light that others take over is no shadow: the second lamp's eye stays lit.
        BeamBoard two = Check.board("size 5 3;lamp red right at 0 1;lamp blue down at 3 0;eye a at 3 1;");
        shadow(two, 1, 1, 0);
        shadow(two, 2, 1, 0);
    }

    // ---- "the first SQUARE (row by row) with the greatest SHADOW"; "NONE ... if no SQUARE is empty"

    private static void darkest() {
        darkest(Check.board(EIGHT_EYES), 1, 1, 8);
        darkest(Check.board(Machine.countsUp(3)), 1, 0, 3);
        darkest(Check.board(Machine.counts(3)), 1, 0, 0);
        darkest(Check.board("size 2 2;"), 0, 0, 0);
        darkest(Check.board("size 2 2;wall at 0 0;"), 1, 0, 0);
        darkest(Check.board("size 2 2;wall at 0 0;wall at 1 0;"), 0, 1, 0);
        darkest(Check.board("size 2 2;wall at 0 0;wall at 1 0;wall at 0 1;"), 1, 1, 0);
        darkest(Check.board("size 2 2;wall at 0 0;wall at 1 0;wall at 0 1;wall at 1 1;"), NONE, NONE, NONE);
        darkest(Check.board("size 2 2;lamp red right at 0 0;eye a at 1 0;wall at 0 1;wall at 1 1;"), NONE, NONE, NONE);
        darkest(Check.board("size 3 3;lamp red right at 0 2;eye a at 2 2;"), 1, 2, 1);
        darkest(Check.board("size 3 3;lamp red down at 2 0;eye a at 2 2;"), 2, 1, 1);
        // In one row two squares, in one column two: the first by row, then by column.
        darkest(Check.board("size 4 4;lamp red left at 3 0;eye a at 0 0;"), 1, 0, 1);
        darkest(Check.board("size 4 4;lamp red up at 0 3;eye a at 0 0;"), 0, 1, 1);
        darkest(Check.board("size 4 4;lamp red right at 0 2;eye a at 3 2;lamp red down at 2 0;eye b at 2 3;"), 2, 2, 2);
    }

    private static void more(BeamBoard x, int column, int row, int form) {
        int[] due = {column, row, form, NONE};
        for (int what = 0; what < 4; what++) {
            CHECK.due("more(" + what + ")", x.more(what), due[what]);
        }
        CHECK.due("more(-1)", x.more(-1), NONE);
    }

    // ---- "the first empty SQUARE, and FORM (slash ahead of back), on which a mirror more has the WISHES MET"

    private static void more() {
        more(Check.board("size 2 2;"), 0, 0, 0);
        more(Check.board("size 2 2;wall at 0 0;wall at 1 0;wall at 0 1;"), 1, 1, 0);
        more(Check.board("size 2 2;wall at 0 0;wall at 1 0;wall at 0 1;wall at 1 1;"), NONE, NONE, NONE);
        // The mirror takes the light away by which it counts for ever: then it rests.
        BeamBoard round = Check.board(Machine.counts(3));
        more(round, 1, 0, 0);
        // Back sends it down where the next row's mover sees nothing of it; but the eye of the first row is to be lit.
        round.wish(0, 1);
        more(round, NONE, NONE, NONE);
        // It rests as it is, in any case: on the only empty squares a mirror takes light that is wished.
        BeamBoard keeps = Check.board(Machine.keeps(2));
        keeps.set(3);
        more(keeps, 1, 0, 0);
        keeps.wish(0, 1);
        more(keeps, 1, 1, 0);
        keeps.wish(1, 1);
        more(keeps, NONE, NONE, NONE);
        keeps.wish(0, 2);
        more(keeps, 1, 0, 0);
        CHECK.due("nothing is there", keeps.square(1, 0, 0), 0);
        CHECK.due("no mirror more", keeps.has(3), 0);
        BeamBoard dark = Check.board("size 3 3;eye a at 1 1;");
        more(dark, 0, 0, 0);
        dark.wish(0, 1);
        more(dark, NONE, NONE, NONE);
    }

    private static void moreOfForms() {
        String[] lamps = {"right at 0 1", "left at 2 1", "down at 1 0", "up at 1 2"};
        int[][][] eyes = {{{1, 0}, {1, 2}}, {{1, 2}, {1, 0}}, {{0, 1}, {2, 1}}, {{2, 1}, {0, 1}}};
        for (int k = 0; k < 4; k++) {
            for (int form = 0; form < 2; form++) {
                int[] at = eyes[k][form];
                BeamBoard x = Check.board("size 3 3;lamp red " + lamps[k] + ";eye a at " + at[0] + " " + at[1] + ";");
                x.wish(0, 1);
                more(x, 1, 1, form);
                x.wish(0, 2);
                more(x, 0, 0, 0);
                BeamBoard both = Check.board("size 3 3;lamp red " + lamps[k] + ";eye a at " + eyes[k][0][0] + " " + eyes[k][0][1]
                        + ";eye b at " + eyes[k][1][0] + " " + eyes[k][1][1] + ";");
                both.wish(form, 1);
                both.wish(1 - form, 2);
                more(both, 1, 1, form);
                both.wish(1 - form, 1);
                more(both, NONE, NONE, NONE);
            }
        }
        // A mirror that is turned turns no other: neither form is another one then.
        BeamBoard turned = Check.board("size 4 4;mirror slash at 3 3;half slash at 2 3;lamp red right at 0 1;eye a at 1 0;eye b at 1 2;");
        for (int mirror = 0; mirror < 2; mirror++) {
            turned.turn(mirror);
            turned.wish(0, 1);
            turned.wish(1, 0);
            more(turned, 1, 1, 0);
            turned.wish(0, 0);
            turned.wish(1, 1);
            more(turned, 1, 1, 1);
        }
        // The last square of all: light must come down the last column to the last row.
        BeamBoard last = Check.board("size 4 4;lamp red down at 3 0;eye a at 0 3;");
        last.wish(0, 1);
        more(last, 3, 3, 0);
    }

    /** What is changed where light comes ahead of the end alone changes the end, too. */
    private static void lightOnTheWay() {
        // At first the light goes up to a, then down to c for good; what a saw keeps the shutter of b open.
        BeamBoard x = Check.board("size 3 6;lamp red right at 0 2;vane slash when all at 1 2;eye a at 1 0;eye c at 1 3;"
                + "lamp red right at 0 5;shutter when sees a red or sees b red at 1 5;eye b at 2 5;");
        CHECK.due("steady(true)", x.steady(true), 6);
        shadow(x, 1, 1, 1);
        darkest(x, 1, 1, 1);
        needed(x, 1, 0, 4);
        x.wish(2, 2);
        CHECK.due("met()", x.met(), 0);
        more(x, 1, 1, 0);
        CHECK.due("the square is as it was", x.square(1, 1, 0), 0);
        // From the end on no light comes there any more.
        x.set(3);
        shadow(x, 1, 1, 0);
        darkest(x, 0, 0, 0);
        more(x, NONE, NONE, NONE);
        x.set(1);
        more(x, 0, 0, 0);
        // In the last of sixty-four states alone light goes up through all six shutters to g.
        BeamBoard last = Check.board(twoRowsLower(Machine.countsUp(6)) + "eye g at 2 0;lamp green up at 2 8;");
        CHECK.due("g is lit in the end", last.steady(true), 127);
        shadow(last, 2, 1, 1);
        last.wish(6, 2);
        more(last, 2, 1, 0);
        // Half way: one step on, light comes for a while where there was none, and is gone in the end.
        BeamBoard y = Check.board("size 4 6;lamp red right at 0 0;shutter when not all at 1 0;eye a at 2 0;"
                + "lamp red right at 0 2;shutter when sees a red at 1 2;eye b at 3 2;"
                + "lamp red right at 0 4;shutter when sees b red or sees c red at 1 4;eye c at 2 4;");
        y.set(1);
        CHECK.due("steady(true)", y.steady(true), 4);
        shadow(y, 2, 2, 1);
        darkest(y, 2, 2, 1);
        y.wish(2, 2);
        more(y, 2, 2, 0);
    }

    /** The board of a machine with two empty rows above it, and one below. */
    private static String twoRowsLower(String machine) {
        StringBuilder text = new StringBuilder();
        for (String statement : machine.split("(?<=;)")) {
            int row = statement.charAt(statement.length() - 2) - '0';
            int more = statement.startsWith("size") ? 3 : 2;
            text.append(statement, 0, statement.length() - 2).append(row + more).append(';');
        }
        return text.toString();
    }

    // ---- "unlike THE STATE in the fewest bits, of like ones the least, FROM which the WISHES are MET"

    private static void near() {
        BeamBoard keeps = Check.board(Machine.keeps(6));
        for (int eye = 0; eye < 6; eye++) {
            keeps.wish(eye, 1);
        }
        near(keeps, 0, 63);
        near(keeps, 63, 63);
        near(keeps, 31, 63);
        for (int eye = 0; eye < 6; eye++) {
            keeps.wish(eye, 2);
        }
        near(keeps, 63, 0);
        near(keeps, 0, 0);
        keeps.wish(5, 1);
        near(keeps, 31, 32);
        for (int eye = 0; eye < 6; eye++) {
            keeps.wish(eye, 0);
        }
        for (int state = 0; state < 64; state++) {
            near(keeps, state, state);
        }
        BeamBoard up = Check.board(Machine.countsUp(6));
        near(up, 17, 17);
        up.wish(3, 2);
        near(up, 17, NONE);
        // Bit 2 follows whether one of the others is open alone; of two as near, the one with the lesser number.
        BeamBoard one = Check.board(Machine.text("sees a red", "sees b red", "sees a red and not sees b red or sees b red and not sees a red"));
        one.wish(2, 1);
        int[] due = {1, 1, 2, 1, 5, 5, 6, 5};
        for (int state = 0; state < 8; state++) {
            near(one, state, due[state]);
        }
        one.wish(2, 2);
        int[] dark = {0, 0, 0, 3, 4, 4, 4, 7};
        for (int state = 0; state < 8; state++) {
            near(one, state, dark[state]);
        }
        CHECK.due("near() without movers", Check.board("size 2 2;").near(), 0);
    }

    private static void near(BeamBoard x, int state, int due) {
        x.set(state);
        CHECK.due("near() from " + state, x.near(), due);
        CHECK.due("state()", x.state(), state);
    }

    // ---- "TINT of a glass: the least COLOUR 0 .. 7 (bits) with which they are"

    private static void tint() {
        String[] told = {"red", "green", "blue", "white"};
        for (String colour : told) {
            BeamBoard x = Check.board("size 5 3;lamp white right at 0 1;glass " + colour + " at 1 1;prism at 2 1;eye r at 4 1;eye g at 2 2;eye b at 2 0;");
            int look = x.square(1, 1, 2);
            for (int lit = 0; lit < 8; lit++) {
                // The others do not matter, or are not to be lit.
                for (int how = 0; how <= 2; how += 2) {
                    for (int eye = 0; eye < 3; eye++) {
                        x.wish(eye, (lit >> eye & 1) == 1 ? 1 : how);
                    }
                    CHECK.due("tint for " + lit, x.tint(1, 1), lit);
                    CHECK.due("the glass stays", x.square(1, 1, 2), look);
                }
            }
        }
        // By light of one colour: that colour lets it through, the least with its bit.
        BeamBoard blue = Check.board("size 4 2;lamp blue right at 0 0;glass red at 1 0;eye a at 3 0;");
        blue.wish(0, 1);
        CHECK.due("tint for blue light", blue.tint(1, 0), 4);
        blue.wish(0, 2);
        CHECK.due("tint for none", blue.tint(1, 0), 0);
        // No colour does: without light, or where all light keeps it from rest.
        BeamBoard dark = Check.board("size 4 2;glass red at 1 0;eye a at 3 0;");
        dark.wish(0, 1);
        CHECK.due("tint in the dark", dark.tint(1, 0), NONE);
        BeamBoard round = Check.board(Machine.counts(1).replace("size 4 2;", "size 4 2;glass red at 1 0;"));
        CHECK.due("tint where nothing is wished but rest", round.tint(1, 0), 0);
        round.wish(0, 1);
        CHECK.due("tint where there is no rest with light", round.tint(1, 0), NONE);
        CHECK.due("tint on another row", round.tint(1, 1), NONE);
    }

    private static void tintOfOthers() {
        BeamBoard x = Check.board(EdgeBoardTest.full());
        for (int row = 0; row < 12; row++) {
            for (int column = 0; column < 12; column += 5) {
                boolean isGlass = x.square(column, row, 0) == 4;
                CHECK.due("tint(" + column + ", " + row + ")", x.tint(column, row), isGlass ? 0 : NONE);
            }
        }
        int[][] outside = {{-1, 10}, {12, 10}, {0, -1}, {0, 12}, {12, 9}, {-12, 11}};
        for (int[] at : outside) {
            CHECK.due("tint outside", x.tint(at[0], at[1]), NONE);
        }
        CHECK.due("tint(11, 10)", x.tint(11, 10), 0);
        BeamBoard first = Check.board("size 3 3;glass red at 1 1;eye a at 2 2;");
        for (int[] at : outside) {
            CHECK.due("tint outside, glass being the first piece", first.tint(at[0], at[1]), NONE);
        }
        CHECK.due("tint of an empty square", first.tint(0, 0), NONE);
        CHECK.due("tint(1, 1)", first.tint(1, 1), 0);
    }

    // ---- "SWAPPED of two unlike SQUARES: 1, 0; NONE if there are none such"

    private static void swapped() {
        BeamBoard x = Check.board("size 5 3;lamp red right at 0 1;wall at 2 1;eye a at 4 1;");
        int[][] wrong = {{-1, 1, 4, 1}, {5, 1, 4, 1}, {0, -1, 4, 1}, {0, 3, 4, 1}, {0, 1, -1, 1}, {0, 1, 5, 1}, {0, 1, 4, -1}, {0, 1, 4, 3},
            {0, 0, 0, 0}, {4, 2, 4, 2}, {2, 1, 2, 1}, {5, 0, 0, 1}, {0, 1, 5, 0}, {-1, -1, -1, -1}, {5, 3, 5, 3}};
        for (int how = 0; how < 3; how++) {
            x.wish(0, how);
            for (int[] w : wrong) {
                CHECK.due("swapped of none such", x.swapped(w[0], w[1], w[2], w[3]), NONE);
            }
            int asIs = how == 1 ? 0 : 1;
            CHECK.due("two empty squares", x.swapped(0, 0, 4, 2), asIs);
            CHECK.due("two empty squares side by side", x.swapped(0, 0, 1, 0), asIs);
            CHECK.due("the wall within the way", x.swapped(2, 1, 1, 1), asIs);
            CHECK.due("the wall out of the way", x.swapped(2, 1, 2, 0), how == 2 ? 0 : 1);
            CHECK.due("the wall out of the way, told the other way round", x.swapped(2, 0, 2, 1), how == 2 ? 0 : 1);
            CHECK.due("the lamp for the wall", x.swapped(0, 1, 2, 1), how == 2 ? 0 : 1);
            CHECK.due("the eye for the wall", x.swapped(4, 1, 2, 1), how == 2 ? 0 : 1);
            CHECK.due("the eye for the lamp", x.swapped(4, 1, 0, 1), asIs);
            CHECK.due("the first for the last square", x.swapped(0, 0, 4, 2), asIs);
        }
        CHECK.due("the wall is where it was", x.square(2, 1, 0), 6);
        CHECK.due("the lamp, too", x.square(0, 1, 0), 1);
    }

    /** Each piece takes along what it is: colour, way, form, turned or open, its test. */
    private static void swappedSorts() {
        BeamBoard lamps = Check.board("size 4 3;lamp red right at 0 0;lamp blue left at 3 1;glass red at 1 0;eye a at 2 0;eye b at 1 1;");
        lamps.wish(0, 1);
        CHECK.due("as it is", lamps.met(), 1);
        CHECK.due("a lamp at the edge it looks at", lamps.swapped(0, 0, 3, 1), 0);
        CHECK.due("another lamp's place", lamps.swapped(0, 0, 3, 2), 0);
        CHECK.due("glass for nothing", lamps.swapped(1, 0, 1, 2), 1);
        BeamBoard mirrors = Check.board("size 4 4;lamp red right at 0 1;mirror back at 1 1;mirror slash at 3 3;eye a at 1 0;");
        mirrors.wish(0, 1);
        CHECK.due("the slash for the back", mirrors.swapped(1, 1, 3, 3), 1);
        mirrors.turn(1);
        CHECK.due("the slash that is turned", mirrors.swapped(1, 1, 3, 3), 0);
        mirrors.turn(0);
        CHECK.due("as it is", mirrors.met(), 1);
        CHECK.due("the one that is turned back for the one that is turned slash", mirrors.swapped(1, 1, 3, 3), 0);
        // Shutters that keep as they are: 0 is open, 1 is not.
        BeamBoard movers = Check.board(Machine.keeps(2));
        movers.set(1);
        movers.wish(0, 1);
        CHECK.due("as it is", movers.met(), 1);
        CHECK.due("each opens by the other's row", movers.swapped(2, 0, 2, 1), 0);
        movers.wish(0, 0);
        CHECK.due("so one or the other is open, without an end", movers.swapped(2, 0, 2, 1), 0);
        movers.set(3);
        movers.wish(0, 1);
        movers.wish(1, 1);
        CHECK.due("both open", movers.swapped(2, 0, 2, 1), 1);
        BeamBoard round = Check.board(Machine.counts(2));
        CHECK.due("as it is", round.met(), 0);
        CHECK.due("an eye out of the light", round.swapped(3, 0, 1, 0), 0);
        CHECK.due("the lamp behind its shutter", round.swapped(0, 0, 2, 0), 0);
        BeamBoard prism = Check.board("size 4 3;lamp green right at 0 0;prism at 1 2;glass green at 1 0;eye a at 1 1;");
        prism.wish(0, 1);
        CHECK.due("the prism for the glass", prism.swapped(1, 2, 1, 0), 1);
        CHECK.due("the prism beside it", prism.swapped(1, 2, 2, 0), 0);
    }
}
