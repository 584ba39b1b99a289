/** Promises 37 to 39: image, octet, on. */
public final class ImageTest {
    private static final int NONE = BeamBoard.NONE;
    private static final Check CHECK = new Check("ImageTest");
    private static final String TEXT = "size 5 4;mirror slash at 0 0;half back at 1 0;mirror slash at 2 0;shutter when all at 3 0;"
            + "shutter when all at 4 0;eye a at 0 1;eye b at 1 1;eye c at 2 1;eye d at 3 1;";

    public static void main(String[] args) {
        image();
        on();
        refused();
        CHECK.finish();
    }

    /** An image of these bytes, with its check byte behind them. */
    static byte[] checked(int... bytes) {
        byte[] image = new byte[bytes.length + 1];
        int check = 13;
        for (int i = 0; i < bytes.length; i++) {
            image[i] = (byte) bytes[i];
            check = (3 * check + bytes[i]) % 227;
        }
        image[bytes.length] = (byte) check;
        return image;
    }

    private static void image() {
        BeamBoard x = Check.board(TEXT);
        CHECK.due("octet(0) ahead of any", x.octet(0), NONE);
        x.turn(0);
        x.turn(2);
        x.set(2);
        x.wish(1, 1);
        x.wish(3, 2);
        CHECK.due("image()", x.image(), 10);
        // 13; 39+3=42; 126+2=128; 384+4=388-227=161; 483+5=488-454=34; 102+2=104; 312-227=85; 255+1-227=29; 87; 261+2-227=36
        int[] due = {3, 2, 4, 5, 2, 0, 1, 0, 2, 36};
        for (int k = 0; k < due.length; k++) {
            CHECK.due("octet(" + k + ")", x.octet(k), due[k]);
        }
        CHECK.due("octet(10)", x.octet(10), NONE);
        CHECK.due("octet(-1)", x.octet(-1), NONE);
        CHECK.due("octet(MAX)", x.octet(Integer.MAX_VALUE), NONE);
        CHECK.due("octet(MIN)", x.octet(Integer.MIN_VALUE), NONE);
        x.turn(1);
        CHECK.due("octet(3) is of the latest image()", x.octet(3), 5);
        CHECK.due("image()", x.image(), 10);
        CHECK.due("octet(3)", x.octet(3), 7);
        CHECK.due("another board", Check.read(x, "size 2 2;"), 1);
        CHECK.due("octet(3) is of the latest image(), of another board", x.octet(3), 7);
        CHECK.due("image() without eyes", x.image(), 6);
        CHECK.due("octet(5)", x.octet(5), 13 * 243 % 227);
        CHECK.due("octet(6)", x.octet(6), NONE);
    }

    private static void on() {
        BeamBoard x = Check.board(TEXT);
        x.turn(1);
        x.wish(0, 1);
        Check.feed(x, checked(3, 2, 4, 5, 2, 0, 1, 0, 2), 0);
        CHECK.due("on()", x.on(), true);
        CHECK.due("the tape is gone", x.end(1), false);
        CHECK.due("turned()", x.turned(), 5);
        CHECK.due("state()", x.state(), 2);
        CHECK.due("back()", x.back(), NONE);
        x.image();
        int[] due = {3, 2, 4, 5, 2, 0, 1, 0, 2, 36};
        for (int k = 0; k < due.length; k++) {
            CHECK.due("octet(" + k + ") behind on()", x.octet(k), due[k]);
        }
        CHECK.due("met()", x.met(), 0);
        Check.feed(x, checked(3, 2, 4, 7, 3, 2, 2, 2, 2), 0);
        CHECK.due("on() with all that can be", x.on(), true);
        CHECK.due("turned()", x.turned(), 7);
        CHECK.due("state()", x.state(), 3);
        CHECK.due("met()", x.met(), 1);
        // Of another board with as many.
        BeamBoard y = Check.board("size 2 2;mirror back at 0 0;eye z at 1 1;");
        Check.feed(y, checked(1, 0, 1, 1, 0, 1), 0);
        CHECK.due("on()", y.on(), true);
        CHECK.due("turned()", y.turned(), 1);
        CHECK.due("met()", y.met(), 0);
        BeamBoard z = new BeamBoard();
        Check.feed(z, checked(0, 0, 0, 0, 0), 0);
        CHECK.due("on() of a new object", z.on(), true);
        Check.feed(z, checked(0, 0, 0, 1, 0), 0);
        CHECK.due("on() of a new object, wrong", z.on(), false);
        // Eight mirrors: a byte beyond 127.
        StringBuilder text = new StringBuilder("size 8 2;");
        for (int i = 0; i < 8; i++) {
            text.append("mirror slash at ").append(i).append(" 0;");
        }
        BeamBoard eight = Check.board(text.toString());
        Check.feed(eight, checked(8, 0, 0, 200, 0), 0);
        CHECK.due("on()", eight.on(), true);
        CHECK.due("turned()", eight.turned(), 200);
        CHECK.due("image()", eight.image(), 6);
        CHECK.due("octet(3)", eight.octet(3), 200);
    }

    private static void refused() {
        int[][] wrong = {
            {2, 2, 4, 5, 2, 0, 1, 0, 2}, {4, 2, 4, 5, 2, 0, 1, 0, 2}, {3, 1, 4, 1, 1, 0, 1, 0, 2}, {3, 2, 3, 5, 2, 0, 1, 0},
            {3, 2, 3, 5, 2, 0, 1, 0, 2}, {3, 2, 4, 8, 2, 0, 1, 0, 2}, {3, 2, 4, 255, 2, 0, 1, 0, 2}, {3, 2, 4, 5, 4, 0, 1, 0, 2},
            {3, 2, 4, 5, 2, 3, 1, 0, 2}, {3, 2, 4, 5, 2, 0, 1, 0, 3}, {3, 2, 4, 5, 2, 0, 255, 0, 2}, {3, 2, 4, 5, 2, 0, 1, 0},
            {3, 2, 4, 5, 2, 0, 1, 0, 2, 0}, {},
        };
        for (int[] bytes : wrong) {
            refused(checked(bytes));
        }
        byte[] good = checked(3, 2, 4, 5, 2, 0, 1, 0, 2);
        for (int i = 0; i < good.length; i++) {
            byte[] spoilt = good.clone();
            spoilt[i] ^= 1;
            refused(spoilt);
        }
        byte[] large = good.clone();
        large[good.length - 1] = (byte) 227;
        refused(large);
        refused(new byte[0]);
        refused(java.util.Arrays.copyOf(good, good.length - 1));
        refused(java.util.Arrays.copyOf(good, good.length + 1));
    }

    private static void refused(byte[] bytes) {
        String name = "on() of " + java.util.Arrays.toString(bytes);
        BeamBoard x = Check.board(TEXT);
        x.turn(1);
        x.set(1);
        x.wish(0, 1);
        Check.feed(x, bytes, 0);
        CHECK.due(name, x.on(), false);
        CHECK.due(name + ": the tape is gone", x.end(1), false);
        CHECK.due(name + ": turned()", x.turned(), 2);
        CHECK.due(name + ": state()", x.state(), 1);
        CHECK.due(name + ": met()", x.met(), 0);
        x.wish(0, 0);
        CHECK.due(name + ": met()", x.met(), 1);
        CHECK.due(name + ": back()", x.back(), 1);
        Check.feed(x, bytes, 0);
        x.board();
        CHECK.due(name + ": fault(0) of it as a text", x.fault(0), 1);
    }
}
