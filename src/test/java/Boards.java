import java.util.ArrayList;
import java.util.Collections;
import java.util.List;
import java.util.Random;

/** Texts of boards, made from a seed: the same seed, the same text. */
final class Boards {
    private static final String[] COLOURS = {"red", "green", "blue", "white"};
    private static final String[] WAYS = {"up", "right", "down", "left"};
    private static final String[] FORMS = {"slash", "back"};

    private final Random random;
    private final List<String> eyes = new ArrayList<>();

    Boards(long seed) {
        random = new Random(seed);
    }

    private String one(String... words) {
        return words[random.nextInt(words.length)];
    }

    /** A board without a fault. */
    String text(int widest) {
        int columns = 2 + random.nextInt(widest - 1);
        int rows = 2 + random.nextInt(widest - 1);
        List<String> squares = new ArrayList<>();
        for (int i = 0; i < columns * rows; i++) {
            squares.add(" at " + i % columns + " " + i / columns);
        }
        Collections.shuffle(squares, random);
        List<String> pieces = pieces(columns * rows);
        StringBuilder text = new StringBuilder("size " + columns + " " + rows + ";");
        for (int i = 0; i < pieces.size() && i < squares.size(); i++) {
            text.append(pieces.get(i)).append(squares.get(i)).append(random.nextInt(8) == 0 ? " ;\n" : ";");
        }
        return text.toString();
    }

    private List<String> pieces(int squares) {
        List<String> pieces = new ArrayList<>();
        int room = Math.min(squares, 48);
        int eyeCount = 1 + random.nextInt(Math.min(8, Math.max(1, room / 3)));
        for (int i = 0; i < eyeCount; i++) {
            eyes.add("e" + (char) ('a' + i) + "xyzw".substring(random.nextInt(5)));
        }
        int lamps = 1 + random.nextInt(Math.min(8, Math.max(1, room / 4)));
        for (int i = 0; i < lamps; i++) {
            pieces.add("lamp " + one(COLOURS) + " " + one(WAYS));
        }
        for (int i = random.nextInt(Math.min(6, 1 + room / 4) + 1); i > 0; i--) {
            pieces.add(random.nextInt(3) == 0 ? "shutter when " + test(0) : "vane " + one(FORMS) + " when " + test(0));
        }
        int mirrors = random.nextInt(6);
        for (int i = 0; i < mirrors; i++) {
            pieces.add(one("mirror", "half", "half") + " " + one(FORMS));
        }
        for (int i = random.nextInt(1 + room / 6); i > 0; i--) {
            pieces.add(random.nextInt(3) == 0 ? "wall" : random.nextInt(2) == 0 ? "prism" : "glass " + one(COLOURS));
        }
        Collections.shuffle(pieces, random);
        // The least board has four squares: the eyes that the tests name come first, all of them.
        List<String> all = new ArrayList<>();
        for (String eye : eyes) {
            all.add("eye " + eye);
        }
        all.addAll(pieces);
        List<String> taken = new ArrayList<>(all.subList(0, Math.min(all.size(), room)));
        Collections.shuffle(taken, random);
        return taken;
    }

    private String test(int open) {
        StringBuilder text = new StringBuilder(fact(open));
        while (random.nextInt(3) == 0) {
            text.append(one(" and ", " or ")).append(fact(open));
        }
        return text.toString();
    }

    private String fact(int open) {
        int kind = random.nextInt(open < 6 ? 12 : 8);
        if (kind >= 10) {
            return "[" + test(open + 1) + "]";
        }
        if (kind >= 8) {
            return "not " + fact(open + 1);
        }
        return kind == 7 && random.nextInt(3) == 0 ? "all" : "sees " + eyes.get(random.nextInt(eyes.size())) + " " + one(COLOURS);
    }

    /** A board's text with some bytes or words changed. */
    String spoilt(String text) {
        StringBuilder spoilt = new StringBuilder(text);
        for (int i = 1 + random.nextInt(2); i > 0; i--) {
            spoil(spoilt);
        }
        return spoilt.toString();
    }

    private void spoil(StringBuilder text) {
        int at = random.nextInt(text.length() + 1);
        int to = Math.min(text.length(), at + 1 + (random.nextInt(3) == 0 ? random.nextInt(12) : 0));
        switch (random.nextInt(8)) {
            case 0 -> text.delete(at, to);
            case 1 -> text.insert(at, " ");
            case 2 -> text.insert(at, one("a", "z", "0", "7", ";", "[", "]", "?", "A", "\t", "\n", "\u00e9"));
            case 3 -> text.insert(at, one(" not ", " [", "] ", " all ", " and ", " or ", "lamp red up at 0 0;",
                    " not not not ", " [[[ ", " 12 ", " 99 ", " 00001", "abcdefg", " eye ea at 1 1;", " size "));
            case 4 -> text.insert(at, text.substring(at, to));
            case 5 -> text.setLength(at);
            case 6 -> text.replace(at, to, one("e", "1", " ", ";", "shutter", "mirrors", "123456", "sees"));
            default -> spoilWord(text);
        }
    }

    /** One whole word or number gives way to another. */
    private void spoilWord(StringBuilder text) {
        String[] words = text.toString().split("(?<=[ ;\\[\\]\n])|(?=[ ;\\[\\]\n])");
        int at = random.nextInt(words.length);
        words[at] = one("size", "lamp", "mirror", "half", "glass", "eye", "shutter", "vane", "at", "when", "red", "up",
                "slash", "or", "and", "not", "all", "sees", "0", "1", "13", "ea", "none", "[", "]", ";", "", "not ");
        text.setLength(0);
        text.append(String.join("", words));
    }

    int below(int n) {
        return random.nextInt(n);
    }
}
