import java.nio.charset.StandardCharsets;

/** What the tests share: answers that are due, and texts put on the tape. */
final class Check {
    private final String name;
    private int looked;
    private int wrong;

    Check(String name) {
        this.name = name;
    }

    void due(String call, long got, long want) {
        looked++;
        if (got != want) {
            wrong++;
            if (wrong <= 40) {
                System.out.println(name + ": " + call + " answered " + got + ", due is " + want);
            }
        }
    }

    void due(String call, boolean got, boolean want) {
        due(call, got ? 1 : 0, want ? 1 : 0);
    }

    /** A text without a fault, of so many statements. */
    void good(String text, int statements) {
        BeamBoard x = new BeamBoard();
        feed(x, text);
        due(text, x.board(), statements);
        due(text + " fault(0)", x.fault(0), 0);
        due(text + " fault(1)", x.fault(1), BeamBoard.NONE);
        due(text + " fault(2)", x.fault(2), BeamBoard.NONE);
    }

    /** A text with a fault: ^ stands ahead of the byte at which it is. */
    void bad(int fault, String marked) {
        int place = marked.indexOf('^');
        String text = marked.substring(0, place) + marked.substring(place + 1);
        BeamBoard x = new BeamBoard();
        feed(x, text);
        due(marked, x.board(), BeamBoard.NONE);
        due(marked + " fault(0)", x.fault(0), fault);
        due(marked + " fault(1)", x.fault(1), place);
        due(marked + " fault(2)", x.fault(2), BeamBoard.NONE);
        due(marked + " fault(-1)", x.fault(-1), BeamBoard.NONE);
    }

    /** Ends the program with exit code 1 if an answer was wrong. */
    void finish() {
        System.out.println(name + ": " + looked + " answers, " + wrong + " wrong");
        if (wrong != 0 || looked == 0) {
            System.exit(1);
        }
    }

    static byte[] bytes(String text) {
        return text.getBytes(StandardCharsets.ISO_8859_1);
    }

    /** Puts bytes behind those on the tape, of which there are so many already. */
    static void feed(BeamBoard x, byte[] bytes, int already) {
        for (int i = 0; i < bytes.length; i += 20) {
            x.feed(number(bytes, i), number(bytes, i + 4), number(bytes, i + 8), number(bytes, i + 12), number(bytes, i + 16));
        }
        x.end(already + bytes.length);
    }

    /** How many calls feed() makes for so many bytes. */
    static int callsToFeed(int bytes) {
        return (bytes + 19) / 20 + 1;
    }

    static void feed(BeamBoard x, String text) {
        feed(x, bytes(text), 0);
    }

    /** Four bytes, the highest first; blanks beyond the end. */
    static int number(byte[] bytes, int from) {
        int number = 0;
        for (int i = from; i < from + 4; i++) {
            number = number << 8 | (i < bytes.length ? bytes[i] & 255 : ' ');
        }
        return number;
    }

    /** Feeds a text and makes it the board: what board() answers. */
    static int read(BeamBoard x, String text) {
        feed(x, text);
        return x.board();
    }

    /** A new object with this board. */
    static BeamBoard board(String text) {
        BeamBoard x = new BeamBoard();
        if (read(x, text) == BeamBoard.NONE) {
            throw new IllegalArgumentException("fault " + x.fault(0) + " at " + x.fault(1) + ": " + text);
        }
        return x;
    }
}
