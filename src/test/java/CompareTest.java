/** All promises beside the faults: the class against NaiveBoard, on boards made from seeds. */
public final class CompareTest {
    private static final Check CHECK = new Check("CompareTest");
    private static final int BOARDS = 200;
    /** Prisms and halves that part eight lamps' light till almost each square has it by all ways, in colours apart. */
    private static final String MUCH_LIGHT = "size 12 12;lamp white up at 7 11;lamp white up at 2 11;lamp white down at 11 0;"
            + "lamp white up at 6 11;lamp white up at 5 11;lamp white up at 3 11;lamp white up at 4 11;"
            + "lamp white up at 9 11;half back at 8 0;half slash at 1 1;half slash at 6 0;half slash at 9 0;"
            + "half back at 10 0;half back at 1 8;half back at 7 1;half slash at 10 8;prism at 6 10;prism at 5 10;"
            + "prism at 11 2;prism at 11 1;prism at 3 5;prism at 4 9;prism at 0 10;prism at 11 11;prism at 2 10;"
            + "prism at 1 0;prism at 0 11;prism at 1 11;prism at 10 11;prism at 3 0;prism at 0 8;prism at 11 5;"
            + "prism at 8 10;prism at 11 4;prism at 11 9;prism at 3 10;prism at 9 10;prism at 0 4;prism at 0 0;"
            + "prism at 4 0;prism at 11 7;prism at 2 0;prism at 9 3;prism at 0 7;prism at 0 5;prism at 11 8;"
            + "prism at 5 0;prism at 0 6;prism at 7 10;prism at 11 3;prism at 8 2;prism at 11 10;prism at 0 2;"
            + "prism at 0 3;prism at 7 2;prism at 0 9;prism at 0 1;prism at 8 7;prism at 11 6;";

    public static void main(String[] args) {
        int boards = args.length > 0 ? Integer.parseInt(args[0]) : BOARDS;
        long first = args.length > 1 ? Long.parseLong(args[1]) : 1;
        for (long seed = first; seed < first + boards; seed++) {
            compare(seed);
        }
        NaiveText much = new NaiveText(MUCH_LIGHT);
        much.read();
        now("much light: ", new Replayed(MUCH_LIGHT), new NaiveBoard(much));
        CHECK.finish();
    }

    private static void compare(long seed) {
        Boards made = new Boards(seed);
        String text = made.text(seed % 3 == 0 ? 8 : 5);
        NaiveText naive = new NaiveText(text);
        naive.read();
        NaiveBoard n = new NaiveBoard(naive);
        String name = "seed " + seed + ": " + text + ": ";
        if (text.length() > 1600) {
            return;
        }
        CHECK.due(name + "board()", Check.read(new BeamBoard(), text), naive.statements);
        Replayed x = new Replayed(text);
        told(name, x, n);
        for (int part = 0; part < 4; part++) {
            String here = name + "part " + part + " ";
            now(here, x, n);
            changes(here, x, n);
            for (int i = 0; i < 6; i++) {
                move(here, x, n, made);
            }
        }
        image(name, x, n);
    }

    private static int bit(boolean answer) {
        return answer ? 1 : 0;
    }

    private static void told(String name, Replayed x, NaiveBoard n) {
        int[] has = {n.columns, n.rows, n.lamps(), n.mirrors(), n.movers(), n.eyes(), n.pieces.size()};
        for (int what = 0; what < has.length; what++) {
            CHECK.due(name + "has " + what, x.it().has(what), has[what]);
        }
        for (NaiveText.Piece p : n.pieces) {
            for (int k = 0; p.is("eye") && k <= p.name.length(); k++) {
                CHECK.due(name + "letter", x.it().letter(p.number, k), k < p.name.length() ? p.name.charAt(k) : -1);
            }
        }
    }

    private static void now(String name, Replayed x, NaiveBoard n) {
        for (int column = -1; column <= n.columns; column++) {
            for (int row = -1; row <= n.rows; row++) {
                for (int k = -1; k <= 4; k++) {
                    CHECK.due(name + "square " + column + " " + row + " " + k, x.it().square(column, row, k), n.square(column, row, k));
                    CHECK.due(name + "light " + column + " " + row + " " + k, x.it().light(column, row, k), n.light(column, row, k));
                }
            }
        }
        for (int k = -1; k <= 8; k++) {
            CHECK.due(name + "lit " + k, x.it().lit(k), n.lit(k));
            CHECK.due(name + "sees " + k, x.it().sees(k), n.sees(k));
            CHECK.due(name + "behind " + k, x.it().behind(k), n.behind(k));
            CHECK.due(name + "rings " + k, x.it().rings(k), n.rings(k));
            CHECK.due(name + "round " + k, x.it().round(k), n.round(k));
            CHECK.due(name + "slow " + k, x.it().slow(k), n.slow(k));
        }
        for (int k = -2; k <= 1 << n.movers(); k++) {
            CHECK.due(name + "rests " + k, x.it().rests(k), n.rests(k));
            CHECK.due(name + "drawn " + k, x.it().drawn(k), n.drawn(k));
        }
        CHECK.due(name + "steady true", x.it().steady(true), n.steady(true));
        CHECK.due(name + "steady false", x.it().steady(false), n.steady(false));
        for (int lamp = -1; lamp <= n.lamps(); lamp++) {
            for (int eye = -1; eye <= n.eyes(); eye++) {
                for (int colour = 0; colour <= 4; colour++) {
                    CHECK.due(name + "reach " + lamp + eye + colour, x.it().reach(lamp, eye, colour), n.reach(lamp, eye, colour));
                }
            }
        }
    }

    private static void changes(String name, Replayed x, NaiveBoard n) {
        CHECK.due(name + "met", x.it().met(), n.met());
        CHECK.due(name + "fewest false", x.it().fewest(false), n.fewest(false));
        CHECK.due(name + "fewest true", x.it().fewest(true), n.fewest(true));
        CHECK.due(name + "near", x.it().near(), n.near());
        for (int k = -1; k <= 3; k++) {
            CHECK.due(name + "darkest " + k, x.it().darkest(k), n.darkest(k));
            CHECK.due(name + "more " + k, x.it().more(k), n.more(k));
            CHECK.due(name + "solutions " + k, x.it().solutions(k), n.solutions(k));
        }
        for (int column = -1; column <= n.columns; column++) {
            for (int row = -1; row <= n.rows; row++) {
                String at = column + " " + row;
                CHECK.due(name + "needed " + at, x.it().needed(column, row), n.needed(column, row));
                CHECK.due(name + "shadow " + at, x.it().shadow(column, row), n.shadow(column, row));
                CHECK.due(name + "tint " + at, x.it().tint(column, row), n.tint(column, row));
                int other = Math.floorMod(column * 3 + row, n.columns + 1);
                CHECK.due(name + "swapped " + at, x.it().swapped(column, row, other, n.rows / 2), n.swapped(column, row, other, n.rows / 2));
            }
        }
        CHECK.due(name + "turned", x.it().turned(), n.turned);
        CHECK.due(name + "state", x.it().state(), n.state);
    }

    private static void move(String name, Replayed x, NaiveBoard n, Boards made) {
        int k = made.below(10) - 1;
        switch (made.below(6)) {
            case 0 -> CHECK.due(name + "turn " + k, x.move(b -> b.turn(k)), n.turn(k));
            case 1 -> CHECK.due(name + "set " + k, x.move(b -> bit(b.set(7 * k))), bit(n.set(7 * k)));
            case 2 -> CHECK.due(name + "step " + k, x.move(b -> b.step(k)), n.step(k));
            case 3 -> CHECK.due(name + "back", x.move(b -> b.back()), n.back());
            default -> {
                int how = made.below(4);
                CHECK.due(name + "wish " + k + " " + how, x.move(b -> bit(b.wish(k, how))), bit(n.wish(k, how)));
            }
        }
        CHECK.due(name + "turned", x.it().turned(), n.turned);
        CHECK.due(name + "state", x.it().state(), n.state);
    }

    private static void image(String name, Replayed x, NaiveBoard n) {
        byte[] image = n.image();
        CHECK.due(name + "image", x.move(b -> b.image()), image.length);
        for (int k = -1; k <= image.length; k++) {
            CHECK.due(name + "octet " + k, x.it().octet(k), k < 0 || k == image.length ? -1 : image[k] & 255);
        }
        x.move(b -> bit(b.set(0)));
        for (int eye = 0; eye < n.eyes(); eye++) {
            int one = eye;
            x.move(b -> bit(b.wish(one, 1)));
        }
        int answer = x.move(Check.callsToFeed(image.length) + 1, b -> {
            Check.feed(b, image, 0);
            return bit(b.on());
        });
        CHECK.due(name + "on", answer, 1);
        CHECK.due(name + "back behind on", x.it().back(), -1);
        n.forgetPast();
        changes(name + "behind on ", x, n);
        x.move(b -> b.image());
        CHECK.due(name + "the same image again", x.it().octet(image.length - 1), image[image.length - 1] & 255);
    }
}
