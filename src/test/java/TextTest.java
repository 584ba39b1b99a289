/** Promises 4 and 5: board and fault. In the texts with a fault, ^ stands ahead of the byte at which it is. */
public final class TextTest {
    private static final int NONE = BeamBoard.NONE;
    private static final Check CHECK = new Check("TextTest");
    private static final String HEAD = "size 4 4;";
    private static final String EYE = HEAD + "eye a at 3 3;";

    public static void main(String[] args) {
        goodTexts();
        wordsAndNumbers();
        grammar();
        numbers();
        taken();
        open();
        tooMany();
        unknownNames();
        whichComesFirst();
        whatStays();
        manyBoards();
        cutTexts();
        CHECK.finish();
    }

    private static void good(String text, int statements) {
        CHECK.good(text, statements);
    }

    private static void bad(int fault, String marked) {
        CHECK.bad(fault, marked);
    }

    private static void goodTexts() {
        good("size 2 2;", 1);
        good("size 12 12;", 1);
        good("\n  size\n2\n 2 \n;\n ", 1);
        good("size 0002 0012;", 1);
        good("size 2 2;wall at 0 0;wall at 1 0;wall at 0 1;wall at 1 1;", 5);
        good(HEAD + "lamp red up at 0 0;lamp green right at 1 0;lamp blue down at 2 0;lamp white left at 3 0;", 5);
        good(HEAD + "mirror slash at 0 0;half back at 1 0;glass red at 2 0;prism at 3 0;wall at 0 1;eye a at 1 1;", 7);
        good(HEAD + "eye abcdef at 0 0;eye z at 1 0;vane back when sees z white at 1 1;", 4);
        good(HEAD + "shutter when sees b red at 0 0;eye b at 0 1;", 3);
        good(EYE + "shutter when[all]at 0 0;shutter when[[all]and not[all]]or all at 1 0;", 4);
        good(EYE + "shutter when all or all and all or not all and not sees a blue at 0 0;", 3);
        good(EYE + "shutter when not not not not not not all at 0 0;", 3);
        good(EYE + "shutter when [[[[[[all]]]]]] and [[[[[[all]]]]]] at 0 0;", 3);
        good(EYE + "shutter when not [ not [ not [ all ] ] ] or not not not not not not all at 0 0;", 3);
        good("size 12 12;" + walls(59), 60);
        good("size 12 12;" + walls(59) + "\n \n", 60);
    }

    /** So many walls in a table twelve columns wide. */
    private static String walls(int n) {
        StringBuilder text = new StringBuilder();
        for (int i = 0; i < n; i++) {
            text.append("wall at ").append(i % 12).append(' ').append(i / 12).append(';');
        }
        return text.toString();
    }

    private static void wordsAndNumbers() {
        bad(1, "^");
        bad(1, "   \n^");
        bad(1, "^siz 2 2;");
        bad(1, "^sizes 2 2;");
        bad(1, "^Size 2 2;");
        bad(1, "sizetw^o 2 2;");
        bad(1, "abcdef^g");
        bad(1, "abcdef^ghijklmnop 3;");
        bad(1, "size^2 2;");
        bad(1, "size^22222 2;");
        bad(1, "size 2^a 2;");
        bad(1, "size 2^abcdefghij 2;");
        bad(1, "size 1234^5 2;");
        bad(1, "size 0000^2 2;");
        bad(1, "size 1234^56789a 2;");
        bad(1, "1234^5");
        bad(1, "^1234");
        bad(1, "size 2\t2;".replace("\t", "^\t"));
        bad(1, "size 2^\r2;");
        bad(1, "^\u00e9size 2 2;");
        bad(1, "^\u0000size 2 2;");
        bad(1, "size 2 2;^?");
        bad(1, HEAD + "eye abcdef^g at 0 0;");
        bad(1, HEAD + "eye shutte^rs at 0 0;");
        bad(1, HEAD + "eye ^shutter at 0 0;");
        bad(1, HEAD + "eye ^sees at 0 0;");
        bad(1, HEAD + "eye a^1 at 0 0;");
        bad(1, HEAD + "eye ^A at 0 0;");
        bad(1, HEAD + "shutte^rs when all at 0 0;");
        bad(1, HEAD + "wall at 0 0^abcdefg;");
        bad(1, HEAD + "wall at 0^x 0;");
        bad(1, HEAD + "wall at 0 0 abcdef^g;");
        bad(1, HEAD + "wall at 0 0 1111^1;");
        bad(1, HEAD + "wall at^0 0;");
        bad(1, HEAD + "wall at^99 0;");
    }

    private static void grammar() {
        bad(1, "^;");
        bad(1, "^wall at 0 0;");
        bad(1, "size^;");
        bad(1, "size 2^;");
        bad(1, "size 2 2 ^2;");
        bad(1, "size 2 2^");
        bad(1, "size 2 2  \n^");
        bad(1, "size 2 ^x;");
        bad(1, HEAD + "^;");
        bad(1, HEAD + "^size 2 2;");
        bad(1, HEAD + "^at 0 0;");
        bad(1, HEAD + "^foo at 0 0;");
        bad(1, HEAD + "lamp ^up red at 0 0;");
        bad(1, HEAD + "lamp red ^at 0 0;");
        bad(1, HEAD + "lamp ^when up at 0 0;");
        bad(1, HEAD + "lamp red ^white at 0 0;");
        bad(1, HEAD + "lamp red ^slash at 0 0;");
        bad(1, HEAD + "mirror ^left at 0 0;");
        bad(1, HEAD + "mirror ^or at 0 0;");
        bad(1, HEAD + "lamp red ^red at 0 0;");
        bad(1, HEAD + "lamp red up ^0 0;");
        bad(1, HEAD + "mirror ^red at 0 0;");
        bad(1, HEAD + "half ^up at 0 0;");
        bad(1, HEAD + "glass ^slash at 0 0;");
        bad(1, HEAD + "glass ^yellow at 0 0;");
        bad(1, HEAD + "prism ^red at 0 0;");
        bad(1, HEAD + "wall ^0 0;");
        bad(1, HEAD + "eye ^at 0 0;");
        bad(1, HEAD + "eye ^1 at 0 0;");
        bad(1, HEAD + "wall at 0^;");
        bad(1, HEAD + "wall at 0 0 ^0;");
        bad(1, HEAD + "wall at 0 ^[0];");
        bad(1, HEAD + "wall at 0 0;wall^");
        bad(1, HEAD + "wall at 0 0;wall ^");
        bad(1, HEAD + "wall at 0 0;wall at 1 1^");
        bad(1, HEAD + "^a");
        bad(1, EYE + "shutter ^slash when all at 0 0;");
        bad(1, EYE + "shutter ^at 0 0;");
        bad(1, EYE + "shutter when ^at 0 0;");
        bad(1, EYE + "vane ^when all at 0 0;");
        bad(1, EYE + "vane slash ^all at 0 0;");
        bad(1, EYE + "shutter when all ^all at 0 0;");
        bad(1, EYE + "shutter when all and ^or all at 0 0;");
        bad(1, EYE + "shutter when all or ^at 0 0;");
        bad(1, EYE + "shutter when [all ^at 0 0;");
        bad(1, EYE + "shutter when all^] at 0 0;");
        bad(1, EYE + "shutter when [^] at 0 0;");
        bad(1, EYE + "shutter when not ^at 0 0;");
        bad(1, EYE + "shutter when ^a red at 0 0;");
        bad(1, EYE + "shutter when sees ^red at 0 0;");
        bad(1, EYE + "shutter when sees ^red red at 0 0;");
        bad(1, EYE + "shutter when sees a ^up at 0 0;");
        bad(1, EYE + "shutter when sees a ^at 0 0;");
        bad(1, EYE + "shutter when sees a red ^red at 0 0;");
        bad(1, EYE + "shutter when sees ^1 red at 0 0;");
        bad(1, EYE + "shutter when [[[[[[ ^] at 0 0;");
    }

    private static void numbers() {
        bad(2, "size ^1 2;");
        bad(2, "size ^0 2;");
        bad(2, "size ^13 2;");
        bad(2, "size 2 ^1;");
        bad(2, "size 2 ^13;");
        bad(2, "size 12 ^9999;");
        bad(2, "size ^0013 2;");
        bad(2, "size 3 5;wall at ^3 0;");
        bad(2, "size 3 5;wall at 2 ^5;");
        bad(2, "size 3 5;wall at ^3 5;");
        bad(2, "size 3 5;wall at ^9999 0;");
        bad(2, "size 3 5;wall at ^99x 0;");
        good("size 3 5;wall at 2 4;", 2);
        good("size 3 5;wall at 0002 0004;", 2);
    }

    private static void taken() {
        bad(3, EYE + "eye ^a at 0 0;");
        bad(3, EYE + "eye b at 0 0;eye ^a at 3 3;");
        bad(3, EYE + "wall at ^3 3;");
        bad(3, EYE + "wall at ^03 3;");
        bad(3, EYE + "wall at ^3 3x;");
        bad(3, EYE + "wall at ^3 3");
        bad(3, EYE + "shutter when all at ^3 3;");
        bad(2, EYE + "wall at 3 ^4;");
        good(EYE + "eye aa at 0 0;eye b at 3 2;", 4);
    }

    private static void open() {
        bad(4, EYE + "shutter when not not not not not not ^not all at 0 0;");
        bad(4, EYE + "shutter when not not not not not not^[all] at 0 0;");
        bad(4, EYE + "shutter when [[[[[[^[all]]]]]]] at 0 0;");
        bad(4, EYE + "shutter when [[[not[[^not all]]]]] at 0 0;");
        bad(4, EYE + "shutter when [[[[[not all and not all and [all and ^not all]]]]]] at 0 0;");
        bad(4, EYE + "shutter when [[[[[[^[");
        bad(4, EYE + "vane slash when [ not [ not [ not ^not ]]");
        good(EYE + "shutter when [[[[[not all and not all and [all]]]]]] at 0 0;", 3);
    }

    private static void tooMany() {
        StringBuilder lamps = new StringBuilder("size 12 12;");
        StringBuilder eyes = new StringBuilder("size 12 12;");
        StringBuilder mirrors = new StringBuilder("size 12 12;");
        StringBuilder movers = new StringBuilder("size 12 12;");
        for (int i = 0; i < 8; i++) {
            lamps.append("lamp red up at ").append(i).append(" 0;");
            eyes.append("eye ").append((char) ('a' + i)).append(" at ").append(i).append(" 1;");
            mirrors.append(i % 2 == 0 ? "mirror" : "half").append(" slash at ").append(i).append(" 2;");
            if (i < 6) {
                movers.append(i % 2 == 0 ? "shutter" : "vane back").append(" when all at ").append(i).append(" 3;");
            }
        }
        good(lamps.toString(), 9);
        good(eyes.toString(), 9);
        good(mirrors.toString(), 9);
        good(movers.toString(), 7);
        bad(5, lamps + "^lamp red up at 8 0;");
        bad(5, lamps + " \n^lamp");
        bad(5, lamps + "^lamp4");
        bad(5, eyes + "^eye a at 8 1;");
        bad(5, mirrors + "^mirror slash at 0 0;");
        bad(5, mirrors + "^half back at 0 0;");
        bad(5, movers + "^shutter when nonsense");
        bad(5, movers + "^vane slash when all at 0 0;");
        good(lamps + eyes.substring(11) + mirrors.substring(11) + movers.substring(11), 31);

        String sixty = "size 12 12;" + walls(59);
        good(sixty, 60);
        bad(5, sixty + "^wall at 11 11;");
        bad(5, sixty + "\n ^;");
        bad(5, sixty + "^?");
        bad(5, sixty + "^abcdefghi");
        bad(5, sixty + "^12345");
        bad(5, sixty + "^size 2 2;");
        bad(1, sixty.substring(0, sixty.length() - 1) + "^");
    }

    private static void unknownNames() {
        bad(6, EYE + "shutter when sees ^b red at 0 0;");
        bad(6, EYE + "shutter when sees a red or sees ^bb red or sees c red at 0 0;");
        bad(6, EYE + "shutter when sees ^aa red at 0 0;vane slash when sees c red at 0 1;");
        bad(6, EYE + "shutter when sees b red at 0 0;vane slash when sees ^c red at 0 1;eye b at 1 1;");
        good(EYE + "shutter when sees b red at 0 0;vane slash when sees c red at 0 1;eye c at 2 2;eye b at 1 1;", 6);
    }

    private static void whichComesFirst() {
        bad(1, EYE + "shutter when sees b red at 0 0;wall at 0 1^");
        bad(2, EYE + "shutter when sees b red at 0 0;wall at ^9 1;foo;");
        bad(3, EYE + "shutter when sees b red at ^3 3;shutter when [[[[[[[");
        bad(2, "size ^99 1;wall at 0 0");
        bad(1, EYE + "wall at 0 ^y;size 99 99;");
        bad(4, EYE + "shutter when not not not not not not ^not sees b up at 9 9;");
    }

    private static void whatStays() {
        BeamBoard x = Check.board("size 3 2;lamp red right at 0 0;mirror back at 1 0;eye a at 1 1;shutter when all at 2 1;");
        x.turn(0);
        x.set(1);
        x.wish(0, 1);
        x.image();
        CHECK.due("board() without a tape", x.board(), NONE);
        CHECK.due("fault(0)", x.fault(0), 1);
        CHECK.due("fault(1)", x.fault(1), 0);
        CHECK.due("refused", Check.read(x, "size 5 5;eye b at 9 9;"), NONE);
        CHECK.due("fault(0)", x.fault(0), 2);
        CHECK.due("fault(1)", x.fault(1), 18);
        CHECK.due("columns stay", x.has(0), 3);
        CHECK.due("pieces stay", x.has(6), 4);
        CHECK.due("turned stays", x.turned(), 1);
        CHECK.due("state stays", x.state(), 1);
        CHECK.due("the wish stays", x.met(), 0);
        CHECK.due("the name stays", x.letter(0, 0), 'a');
        CHECK.due("what was stays", x.back(), 1);
        CHECK.due("the tape is gone", x.end(1), false);
        x.set(1);
        x.wish(0, 2);

        CHECK.due("another board", Check.read(x, "size 3 2;lamp red right at 0 0;mirror back at 1 0;eye a at 1 1;shutter when not all at 2 1;"), 5);
        CHECK.due("the tape is gone", x.end(1), false);
        CHECK.due("fault(0)", x.fault(0), 0);
        CHECK.due("fault(1)", x.fault(1), NONE);
        CHECK.due("none is turned", x.turned(), 0);
        CHECK.due("state 0", x.state(), 0);
        CHECK.due("nothing was", x.back(), NONE);
        x.turn(0);
        CHECK.due("nothing is wished", x.met(), 1);
        x.turn(0);
        CHECK.due("nothing is wished not lit, either", x.met(), 1);
        CHECK.due("the image stays", x.octet(4), 1);
    }

    /** One board behind the other, with refused ones between: nothing of one is left in another. */
    private static void manyBoards() {
        BeamBoard x = new BeamBoard();
        for (int i = 0; i < 3; i++) {
            String name = "round " + i + ": ";
            CHECK.due(name + "the first", Check.read(x, "size 12 3;lamp red right at 0 0;eye abc at 2 0;eye b at 3 0;mirror back at 11 2;"
                    + "shutter when sees abc red at 1 0;wall at 5 2;glass red at 1 1;vane slash when not all at 2 2;"), 9);
            has(x, name, 12, 3, 1, 1, 2, 2, 8);
            CHECK.due(name + "step(1)", x.step(1), 0);
            CHECK.due(name + "set(1)", x.set(1), true);
            CHECK.due(name + "step(1)", x.step(1), 1);
            CHECK.due(name + "letter(0, 2)", x.letter(0, 2), 'c');
            CHECK.due(name + "refused", Check.read(x, "size 9 9;eye abc at 8 8;lamp green up at 7 7;shutter when all at 6 6;?"), NONE);
            has(x, name, 12, 3, 1, 1, 2, 2, 8);
            CHECK.due(name + "the second", Check.read(x, "size 2 5;vane back when all at 0 0;eye abc at 0 1;"), 3);
            has(x, name, 2, 5, 0, 0, 1, 1, 2);
            CHECK.due(name + "step(1)", x.step(1), 1);
            CHECK.due(name + "lit(7)", x.lit(7), 0);
            CHECK.due(name + "square(1, 4, 0)", x.square(1, 4, 0), 0);
            CHECK.due(name + "refused", Check.read(x, ""), NONE);
            if (i % 2 == 0) {
                CHECK.due(name + "the third", Check.read(x, "size 3 3;"), 1);
                has(x, name, 3, 3, 0, 0, 0, 0, 0);
            }
            String test = "sees a red" + " and sees b red or sees a red".repeat(20) + " and not all";
            CHECK.due(name + "a long test", Check.read(x, "size 3 2;lamp red right at 0 0;eye a at 1 0;eye b at 0 1;shutter when "
                    + test + " at 2 0;vane back when not [" + test + "] at 2 1;"), 6);
            CHECK.due(name + "step(1)", x.step(1), 2);
            CHECK.due(name + "wish(1, 1)", x.wish(1, 1), true);
            CHECK.due(name + "met()", x.met(), 0);
            CHECK.due(name + "the same without", Check.read(x, "size 3 2;lamp red right at 0 0;eye a at 1 0;eye b at 0 1;"), 4);
            CHECK.due(name + "nothing is wished", x.met(), 1);
        }
    }

    /** What stands on the tape behind its end is no part of the text. */
    private static void cutTexts() {
        cut("size 2 2;wal", "l at 0 0;", 1, 9);
        cut("size 2 1", "2;", 2, 7);
        cut("size 12 1", "2;wall at 0 0;", 2, 8);
        cut("size 12 12;wall at 0 0", ";", 1, 22);
        cut("size 12 12;", "wall at 0 0", 0, NONE);
        cut("size 12 12; ", ";", 0, NONE);
        cut("", "size 12 12;", 1, 0);
        String[] long1600 = {"a", "1", ";", "[", " ", "?", "a;"};
        int[] places = {6, 4, 0, 0, 1600, 0, 0};
        for (int i = 0; i < long1600.length; i++) {
            BeamBoard x = new BeamBoard();
            Check.feed(x, long1600[i].repeat(1600 / long1600[i].length()));
            CHECK.due("1600 bytes " + long1600[i], x.board(), NONE);
            CHECK.due("1600 bytes " + long1600[i], x.fault(0), 1);
            CHECK.due("1600 bytes " + long1600[i], x.fault(1), places[i]);
        }
        String tests = "size 4 4;shutter when all" + " or[[[[[[all]]]]]]".repeat(87) + "at 0 0;";
        good(tests + " ".repeat(1600 - tests.length()), 2);
        String sees = "size 4 4;eye a at 1 1;shutter when sees a red" + " or sees a red".repeat(108) + " at 0 0;";
        good(sees + " ".repeat(1600 - sees.length()), 3);
    }

    private static void cut(String text, String behind, int fault, int place) {
        BeamBoard x = new BeamBoard();
        Check.feed(x, text + behind);
        CHECK.due("end of " + text, x.end(text.length()), true);
        CHECK.due("board() of " + text, x.board() == NONE, fault != 0);
        CHECK.due("fault(0) of " + text, x.fault(0), fault);
        CHECK.due("fault(1) of " + text, x.fault(1), place);
    }

    private static void has(BeamBoard x, String name, int... due) {
        for (int what = 0; what < due.length; what++) {
            CHECK.due(name + "has(" + what + ")", x.has(what), due[what]);
        }
    }
}
