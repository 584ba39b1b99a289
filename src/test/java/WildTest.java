/** No call ever throws or fails to end, whatever its arguments, in whatever state; and refused calls change nothing. */
public final class WildTest {
    private static final Check CHECK = new Check("WildTest");
    private static final int OBJECTS = 1200;
    private static final int MOST_CALLS = 512;
    // The most that one round takes: a text of 1600 bytes fed, read and looked at.
    private static final int ROUND = 84;
    private static final int[] ODD = {Integer.MIN_VALUE, Integer.MAX_VALUE, -1, -2, 0, 1, 2, 3, 7, 8, 12, 13, 31, 32, 64, 144, 255, 256, 1000, 1001, 1 << 30};

    private final BeamBoard x = new BeamBoard();
    private final Boards made;
    private int calls;

    private WildTest(long seed) {
        made = new Boards(seed);
    }

    public static void main(String[] args) {
        for (long seed = 1; seed <= OBJECTS; seed++) {
            WildTest one = new WildTest(seed);
            String text = one.made.text(7);
            while (one.calls <= MOST_CALLS - ROUND) {
                one.call(text);
            }
            CHECK.due("seed " + seed + " came to its end", 1, 1);
        }
        CHECK.finish();
    }

    private int any() {
        return made.below(3) == 0 ? ODD[made.below(ODD.length)] : made.below(9);
    }

    private void call(String text) {
        int kind = made.below(30);
        if (kind == 0) {
            int before = x.has(6);
            String told = made.below(3) == 0 ? text : made.spoilt(text);
            Check.feed(x, told);
            int answer = x.board();
            calls += Check.callsToFeed(told.length()) + 3;
            CHECK.due("pieces, one less than the statements", x.has(6), answer == -1 ? before : answer - 1);
        } else if (kind == 1) {
            image();
        } else if (kind < 12) {
            look(kind);
        } else {
            move(kind);
        }
    }

    private void image() {
        byte[] bytes = new byte[x.image()];
        for (int k = 0; k < bytes.length; k++) {
            bytes[k] = (byte) x.octet(k);
        }
        if (made.below(2) == 0) {
            bytes[made.below(bytes.length)] = (byte) any();
        }
        int turned = x.turned();
        int state = x.state();
        calls += bytes.length + Check.callsToFeed(bytes.length) + 6;
        Check.feed(x, bytes, 0);
        if (!x.on()) {
            CHECK.due("turned() behind a refused image", x.turned(), turned);
            CHECK.due("state() behind a refused image", x.state(), state);
        }
    }

    private void look(int kind) {
        int turned = x.turned();
        int state = x.state();
        int lit = x.lit(7);
        int met = x.met();
        calls += 9;
        switch (kind) {
            case 2 -> x.has(any());
            case 3 -> x.letter(any(), any());
            case 4 -> x.square(any(), any(), any());
            case 5 -> x.light(any(), any(), any());
            case 6 -> x.lit(any());
            case 7 -> x.sees(any());
            case 8 -> x.round(any());
            case 9 -> x.rests(any());
            case 10 -> x.drawn(any());
            default -> changes();
        }
        CHECK.due("turned() behind a look", x.turned(), turned);
        CHECK.due("state() behind a look", x.state(), state);
        CHECK.due("lit(7) behind a look", x.lit(7), lit);
        CHECK.due("met() behind a look", x.met(), met);
    }

    private void changes() {
        switch (made.below(15)) {
            case 0 -> x.needed(any(), any());
            case 1 -> x.shadow(any(), any());
            case 2 -> x.darkest(any());
            case 3 -> x.more(any());
            case 4 -> x.solutions(any());
            case 5 -> x.near();
            case 6 -> x.tint(any(), any());
            case 7 -> x.swapped(any(), any(), any(), any());
            case 8 -> x.reach(any(), any(), any());
            case 9 -> x.behind(any());
            case 10 -> x.rings(any());
            case 11 -> x.steady(made.below(2) == 0);
            case 12 -> x.slow(any());
            case 13 -> x.fewest(made.below(2) == 0);
            default -> x.fault(any());
        }
    }

    private void move(int kind) {
        calls++;
        switch (kind) {
            case 12, 13 -> x.turn(any());
            case 14, 15 -> x.set(any());
            case 16, 17 -> x.step(any());
            case 18, 19, 20 -> x.wish(any(), any());
            case 21 -> x.back();
            case 22 -> x.feed(any(), any(), any(), any(), any());
            case 23 -> x.end(any());
            case 24 -> x.on();
            case 25 -> x.octet(any());
            case 26 -> changes();
            default -> x.met();
        }
    }
}
