/** Promises 16 to 19: step, round, rests, drawn; and what a TEST means. */
public final class StateTest {
    private static final int NONE = BeamBoard.NONE;
    private static final Check CHECK = new Check("StateTest");
    /** While the eye is dark the shutter opens, while it is lit it shuts: no rest at all. */
    private static final String BLINKS = "size 3 2;lamp red right at 0 0;shutter when not sees a red at 1 0;eye a at 2 0;";
    /** Open or shut, it stays. */
    private static final String STAYS = "size 3 2;lamp red right at 0 0;shutter when sees a red at 1 0;eye a at 2 0;";
    /** State 0, 1, 3, 7, 6, 4 and 0 again; 2 and 5 change places. */
    private static final String GOES_ROUND = "size 3 4;lamp red right at 0 0;lamp red right at 0 1;lamp red right at 0 2;"
            + "shutter when not sees c red at 1 0;shutter when sees a red at 1 1;shutter when sees b red at 1 2;"
            + "eye a at 2 0;eye b at 2 1;eye c at 2 2;";

    public static void main(String[] args) {
        step();
        round();
        rests();
        drawn();
        tests();
        CHECK.finish();
    }

    private static void step() {
        BeamBoard x = Check.board(GOES_ROUND);
        int[] states = {1, 3, 7, 6, 4, 0, 1};
        for (int state : states) {
            CHECK.due("step(1)", x.step(1), state);
            CHECK.due("state()", x.state(), state);
        }
        CHECK.due("step(0)", x.step(0), 1);
        CHECK.due("step(2)", x.step(2), 7);
        CHECK.due("step(1000)", x.step(1000), 1);
        CHECK.due("step(1001)", x.step(1001), NONE);
        CHECK.due("step(-1)", x.step(-1), NONE);
        CHECK.due("step(MAX)", x.step(Integer.MAX_VALUE), NONE);
        CHECK.due("step(MIN)", x.step(Integer.MIN_VALUE), NONE);
        CHECK.due("state()", x.state(), 1);
        CHECK.due("step(997)", x.step(997), 3);
        CHECK.due("settings that were", x.back(), 9);
    }

    private static void round() {
        BeamBoard x = Check.board(GOES_ROUND);
        x.set(6);
        rounds(x, 0, 6, 6, 0);
        x.set(5);
        rounds(x, 0, 2, 5, 2);
        CHECK.due("round leaves the state", x.state(), 5);
        BeamBoard y = Check.board(STAYS);
        rounds(y, 0, 1, 0, 0);
        y.set(1);
        rounds(y, 0, 1, 1, 1);
        BeamBoard z = Check.board("size 4 3;lamp red right at 0 0;shutter when all at 1 0;eye a at 2 0;"
                + "lamp red right at 0 1;shutter when sees a red at 1 1;eye b at 2 1;shutter when sees b red and not sees b blue at 3 2;");
        rounds(z, 3, 1, 7, 7);
        z.set(6);
        rounds(z, 3, 1, 7, 7);
        z.set(3);
        rounds(z, 1, 1, 7, 7);
    }

    private static void rounds(BeamBoard x, int lead, int length, int first, int least) {
        CHECK.due("round(0)", x.round(0), lead);
        CHECK.due("round(1)", x.round(1), length);
        CHECK.due("round(2)", x.round(2), first);
        CHECK.due("round(3)", x.round(3), least);
        CHECK.due("round(4)", x.round(4), NONE);
        CHECK.due("round(-1)", x.round(-1), NONE);
    }

    private static void rests() {
        BeamBoard x = Check.board(STAYS);
        CHECK.due("rests(NONE)", x.rests(NONE), 2);
        CHECK.due("rests(0)", x.rests(0), 0);
        CHECK.due("rests(1)", x.rests(1), 1);
        CHECK.due("rests(2)", x.rests(2), NONE);
        CHECK.due("rests(-2)", x.rests(-2), NONE);
        CHECK.due("rests(MAX)", x.rests(Integer.MAX_VALUE), NONE);
        CHECK.due("rests(MIN)", x.rests(Integer.MIN_VALUE), NONE);
        BeamBoard y = Check.board(BLINKS);
        CHECK.due("rests(NONE)", y.rests(NONE), 0);
        CHECK.due("rests(0)", y.rests(0), NONE);
        BeamBoard z = Check.board("size 4 4;shutter when not all at 0 0;shutter when all at 0 1;");
        CHECK.due("rests(NONE)", z.rests(NONE), 1);
        CHECK.due("rests(0)", z.rests(0), 2);
        CHECK.due("rests(1)", z.rests(1), NONE);
        BeamBoard six = Check.board("size 7 2;" + shutters("not all"));
        CHECK.due("rests(0) of six shutters", six.rests(0), 0);
        six = Check.board("size 7 2;" + shutters("all"));
        CHECK.due("rests(0) of six shutters", six.rests(0), 63);
    }

    private static String shutters(String test) {
        StringBuilder text = new StringBuilder();
        for (int i = 0; i < 6; i++) {
            text.append("shutter when ").append(test).append(" at ").append(i).append(" 0;");
        }
        return text.toString();
    }

    private static void drawn() {
        BeamBoard x = Check.board(GOES_ROUND);
        int[] due = {6, 6, 2, 6, 6, 2, 6, 6};
        for (int state = 0; state < 8; state++) {
            CHECK.due("drawn(" + state + ")", x.drawn(state), due[state]);
        }
        CHECK.due("drawn(8)", x.drawn(8), NONE);
        CHECK.due("drawn(-1)", x.drawn(-1), NONE);
        CHECK.due("drawn(MIN)", x.drawn(Integer.MIN_VALUE), NONE);
        BeamBoard six = Check.board("size 7 2;" + shutters("all"));
        CHECK.due("drawn(63)", six.drawn(63), 64);
        CHECK.due("drawn(62)", six.drawn(62), 0);
        CHECK.due("drawn(64)", six.drawn(64), NONE);
    }

    /** The first mover's TEST, with eyes that see: a red, b green and blue, c nothing, d white. */
    private static void test(String test, boolean holds) {
        BeamBoard x = Check.board("size 5 4;lamp red right at 0 0;eye a at 1 0;lamp green right at 0 1;eye b at 1 1;"
                + "lamp blue left at 2 1;eye c at 0 2;lamp white right at 0 3;eye d at 1 3;shutter when " + test
                + " at 4 0;shutter when all at 4 1;");
        CHECK.due(test, x.step(1), holds ? 3 : 2);
        CHECK.due(test, x.step(1), holds ? 3 : 2);
    }

    private static void tests() {
        test("all", true);
        test("not all", false);
        test("sees a red", true);
        test("sees a green", false);
        test("sees a white", false);
        test("sees b green", true);
        test("sees b blue", true);
        test("sees b red", false);
        test("sees b white", false);
        test("sees c red", false);
        test("sees d white", true);
        test("sees d blue", true);
        test("not sees c blue", true);
        test("not not sees c blue", false);
        // and binds before or, not before both
        test("all or all and not all", true);
        test("not all and all or all", true);
        test("not all and [all or all]", false);
        test("not [not all and all]", true);
        test("not all or all", true);
        test("not [all or all]", false);
        test("all and all and not all", false);
        test("not all or not all or all", true);
        test("not all or not all or sees c red", false);
        test("sees a red and sees b blue and sees d white and not sees c red", true);
        test("[sees a red or sees c red] and [sees c green or sees b green]", true);
        test("[[[[[[sees c red]]]]]] or not [not [not [sees c red]]]", true);
    }
}
